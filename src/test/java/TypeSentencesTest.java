/** Part 3 of the document, sentence by sentence: types that are asked, and the refusals. */
public final class TypeSentencesTest {
    private static final String TEXT = "data L a=K a;data P a b=Q a b;type S a=L a;type R=P Int;type W a b=b->a;"
        + "type D a=a->a;type N a=Int;type Z f x=f x x;class C a{};";
    private static final int DECLARED = 9;

    public static void main(String[] args) {
        freeSmalls();
        faultsAsTold();
        withTheTextsKinds();
        replaced();
        firstFromTheLeft();
        furtherOnes();
        nodes();
        shownTypes();
        refusals();
        usedUp();
        usedUpByRefusals();
        Due.end();
    }

    private static Due asked() {
        Due d = new Due();
        Due.is("read", d.read(TEXT), DECLARED);
        return d;
    }

    private static void freeSmalls() {
        Due.sentence("their SMALL are free, each with one KIND.");
        Due d = asked();
        d.kindIs("x", "*");
        d.kindIs("f", "*");
        d.kindIs("f x->f y", "*");
        d.kindIs("f Int Int->f x x", "*");
        d.typeClash("f Int->^f", "*->*", "*");
        d.typeClash("a->a ^Int", "*", "*->a");
        d.sameIs("f Int,f Int Int", 0, -3);
        d.kindIs("a Int", "*");
        d.kindIs("a->Int", "*");
    }

    private static void faultsAsTold() {
        Due.sentence("FAULTS are 1, 2, 3 (BIG alone), 5, 6 as told");
        Due d = asked();
        d.typeFault(1, "^");
        d.typeFault(1, "Int ^?");
        d.typeFault(1, "x->^");
        d.typeFault(2, Due.times("[", 8) + "^[x]" + Due.times("]", 8));
        d.typeFault(2, "f" + Due.times(" x", 199) + " ^x");
        d.typeFault(3, "x->^X");
        d.typeFault(3, "^C");
        d.typeFault(3, "^K");
        d.typeFault(5, "^S");
        d.typeFault(5, "L ^S x");
        d.typeFault(6, "Int ^x");
        d.typeFault(1, "S X(Int Int)^?");
        d.typeFault(2, "S->X(Int Int)" + Due.times("(", 8) + "^(x");
        d.typeFault(3, "Int Int->S->^X");
        d.typeFault(5, "Int Int->^S");
        d.sameFault(3, "x y,^X");
    }

    private static void withTheTextsKinds() {
        Due.sentence("with the text's KINDS.");
        Due d = asked();
        d.kindIs("L", "*->*");
        d.kindIs("P", "*->*->*");
        d.kindIs("P Int", "*->*");
        d.kindIs("R", "*->*");
        d.kindIs("Z P x", "*");
        d.typeClash("L ^L", "*->*", "(*->*)->a");
        d.typeClash("Z ^L x", "(*->*->*)->*->*", "(*->*)->a");
        d.good(1, "data T a=A;");
        d.typeClash("T ^T", "*->*", "(*->*)->a");
        d.typeFault(3, "^L");
        d.fault(1, "data T a=A^");
        d.typeFault(3, "^T");
        d.kindIs("[Int]", "*");
    }

    private static void replaced() {
        Due.sentence("that is a type's (the word type) and the ones behind it, as many as PARAMETERS, become its right side, "
            + "these ones in place of its PARAMETERS");
        Due d = asked();
        d.plainIs("Int", "Int");
        d.plainIs("L x", "L x");
        d.plainIs("R", "P Int");
        d.plainIs("S x", "L x");
        d.plainIs("W x y", "y->x");
        d.plainIs("D(L x)", "L x->L x");
        d.plainIs("N(L x)", "Int");
        d.plainIs("Z P x", "P x x");
        d.plainIs("Z(f y)[x]", "f y [x] [x]");
        d.plainIs("S(S(S x))", "L (L (L x))");
        d.plainIs("[S x]->f(S x)R", "[L x]->f (L x) (P Int)");
        d.good(3, "type A a b=B b a;type B a b=C(a->b);type C a=[a];");
        d.plainIs("A b a", "[a->b]");
        d.plainIs("A a b", "[b->a]");
    }

    /** A doubled synonym is replaced twice, one that is dropped never; 300 tell how many were. */
    private static void firstFromTheLeft() {
        Due.sentence("again and again the first BIG from the left (as it would be SHOWN)");
        Due d = new Due();
        d.good(6, "type I a=a;type J a=I(I(I(I a)));type N a b=b;type D a b=a->b;type E=Int;type F a b=b->a;");
        String many = "J x->" + Due.times("J x->", 58);
        d.plainIs(many + "J x", Due.times("x->", 59) + "x");
        d.plainFails(many + "J x->E", -4, -3);
        d.plainIs(many + "N(J x)(I(I(I(I x))))", Due.times("x->", 59) + "x");
        d.plainFails(many + "N(J x)(I(I(I(I E))))", -4, -3);
        d.good(4, "type M a=Int;type D a=a->a;type B a=D(D(D(D(D(D(D a))))));type T a b=M b->a;");
        d.plainIs("M(B x)", "Int");
        d.plainIs("M(M(B(B x)))", "Int");
        d.plainFails("B x", -4, -3);
        d.plainIs("T x(B y)", "Int->x");
        d.plainFails("T(B y)x", -4, -3);
    }

    private static void furtherOnes() {
        Due.sentence("further ones stay behind it; till there is none.");
        Due d = asked();
        d.plainIs("R x", "P Int x");
        d.plainIs("R(R x)", "P Int (P Int x)");
        d.good(4, "data P a b c=Q a b c;type A a=P a;type B=A Int;type G f a=f a;kind G::(*->*->*)->*->*->*;");
        d.plainIs("A x y z", "P x y z");
        d.plainIs("B y z", "P Int y z");
        d.plainIs("G(P x)y z", "P x y z");
        d.plainIs("f(A x)(B y)", "f (P x) (P Int y)");
        d.plainIs("G B Int[x]", "P Int Int [x]");
        d.plainIs("B(B x y)(A x y z)", "P Int (P Int x y) (P x y z)");
    }

    private static void nodes() {
        Due.sentence("NODES are its SMALL, BIG, [ and -> .");
        Due d = new Due();
        d.good(3, "type D a=a->a;type N a=Int;type G f=f Int;");
        String half = Due.times("x->", 49) + "x";
        d.plainIs("D(" + half + ")", "(" + half + ")->" + half);
        d.plainIs("[D((" + half + "))]", "[(" + half + ")->" + half + "]");
        d.plainFails("D[" + half + "]", -4, -3);
        d.plainFails("x->D(" + half + ")", -4, -3);
        d.plainFails("f(D(" + half + "))Int", -4, -3);
        d.plainFails("[[D(" + half + ")]]", -4, -3);
        String ones = "f" + Due.times(" x", 197);
        d.plainIs("G(" + ones + ")", ones + " Int");
        d.plainIs("[G(" + ones + ")]", "[" + ones + " Int]");
        d.plainIs("N(" + ones + " Int)", "Int");
    }

    private static void shownTypes() {
        Due.sentence("SHOWN it has a blank between ones of a some, -> without blanks, [ ] as they are, and ( ) only where it "
            + "would be read otherwise without.");
        Due d = asked();
        String[] asShown = {"x", "f x", "f x y", "f (g x)", "f [x]", "f (x->y)", "[x]", "[[x]]", "[f x]", "[x->y]", "x->y",
            "x->y->z", "(x->y)->z", "((x->y)->z)->u", "f x->g y", "f (g (h x)) (x->y) [g x]", "(f x->y)->[(x->y)->z]",
            "f (f x y) (g (x->y->z))"};
        for (String type : asShown) {
            d.plainIs(type, type);
        }
        d.plainIs("((f)(x))", "f x");
        d.plainIs("(f x)y", "f x y");
        d.plainIs("((f x)y)z", "f x y z");
        d.plainIs("(x)->((y)->(z))", "x->y->z");
        d.plainIs("[([x])]", "[[x]]");
        d.plainIs("[(x->y)]", "[x->y]");
        d.plainIs("f([x])", "f [x]");
        d.plainIs("(f x)->(g y)", "f x->g y");
        d.plainIs("f\n( g\nx )  ->  y", "f (g x)->y");
        d.plainIs("W x y->z", "(y->x)->z");
        d.plainIs("z->W x y", "z->y->x");
        d.plainIs("L(W x y)", "L (y->x)");
        d.plainIs("f R", "f (P Int)");
        d.plainIs("f(N x)", "f Int");
    }

    private static void refusals() {
        Due.sentence("REFUSALS are answers below 0: -1 there is no such DECLARED, place, number; -2 outside its bounds; "
            + "-3 there is none; -4 no room; -10 less a FAULT.");
        Due d = asked();
        Due.is("no such declared", d.x.told(DECLARED, 0), -1);
        Due.is("no such place", d.x.out(0), -1);
        Due.is("no such number", d.x.member(0, 1), -1);
        Due.is("outside its bounds", d.x.told(0, 6), -2);
        Due.is("outside its bounds", d.x.cut(1), -2);
        Due.is("there is none", d.x.place(), -3);
        Due.is("there is none", d.x.side(0), -3);
        d.plainFails("D(" + Due.times("x->", 50) + "x)", -4, -3);
        Due.is("fault 1", d.kind(")"), -11);
        Due.is("fault 2", d.kind("((((((((("), -12);
        Due.is("fault 3", d.kind("X"), -13);
        Due.is("fault 4", d.read("type T=T;"), -14);
        Due.is("fault 5", d.read("type T a=a;type U=T;"), -15);
        Due.is("fault 6", d.kind("Int Int"), -16);
    }

    private static void usedUp() {
        Due.sentence("What reads THE TAPE uses it up, whatever it answers.");
        String[] texts = {"", "data T=A;", "data T=", "data T a b c d=A;", "data T=A x;", "type T=T;",
            "type S a=a;type T=S;", "type T=Int Int;"};
        Due d = new Due();
        for (String text : texts) {
            d.read(text);
            isEmpty(d, "read " + text);
        }
        String[] types = {"", "L", "L x", "L x ?", "(((((((((x", "X", "S", "L L", "S x,S x", "S,S", "L L,L L", "x,X"};
        d = asked();
        for (String type : types) {
            d.kind(type);
            isEmpty(d, "kind " + type);
            d.plain(type);
            isEmpty(d, "plain " + type);
            d.same(type);
            isEmpty(d, "same " + type);
        }
    }

    private static void isEmpty(Due d, String call) {
        Due.is("bytes behind " + call, d.x.cut(0), 0);
        Due.is("a feed behind " + call, d.x.feed(0, 0, 0, 0, 0), 20);
        d.x.cut(0);
    }

    private static void usedUpByRefusals() {
        Due.sentence("What reads THE TAPE uses it up, whatever it answers.");
        Due d = asked();
        String much = "D(" + Due.times("x->", 50) + "x)";
        Due.is("plain has no room", d.plain(much), -4);
        isEmpty(d, "plain");
        Due.is("same has no room", d.same(much + ",x"), -4);
        isEmpty(d, "same");
        Due.is("same has no room", d.same("x," + much), -4);
        isEmpty(d, "same");
        d.read(Due.longText(330, ""));
        Due.is("kind has no room", d.kind("V"), -4);
        isEmpty(d, "kind");
        d.put(Due.times(" ", 1200));
        Due.is("a full tape", d.x.read(), 0);
        isEmpty(d, "a full tape");
    }
}
