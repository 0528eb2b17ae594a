/** Part 2 of the document, sentence by sentence: kinds, groups, equations and fault 6. */
public final class KindSentencesTest {
    private static final String L = "data L a=Kl a;";

    public static void main(String[] args) {
        eachHasOne();
        intHasStar();
        kindsOfData();
        kindsOfSynonyms();
        kindsOfClasses();
        names();
        needs();
        groups();
        orderOfGroups();
        toldFirst();
        byNumbers();
        equationsOfSomes();
        equationsOfArrows();
        equationsOfLists();
        equationsOfCons();
        equationsOfMethods();
        equationsOfSynonyms();
        firstWithNoKinds();
        open();
        shown();
        sidesAsBefore();
        letters();
        Due.end();
    }

    private static void eachHasOne() {
        Due.sentence("EACH DECLARED has one, each of its PARAMETERS has, each other SMALL of a method has.");
        Due d = new Due();
        d.good(1, "class C a{m::x Int;n::x;o::x Int Int;};");
        d.clash("class C a{m::x Int->^x;};", "*->*", "*");
        d.clash("class C a{m::a Int;n::^a;};", "*->*", "*");
        d.clash("data T a=A(a Int)|B ^a;", "*->*", "*");
        d.good(2, "data T a=A(a Int);data U a=B a;");
        d.good(2, "class C a{m::a Int;};class D a{n::a;};");
        d.clash("data T a=A(T Int)|B(T ^T);", "*->*", "(*->*)->a");
    }

    private static void intHasStar() {
        Due.sentence("Int has *.");
        Due d = new Due();
        d.kindIs("Int", "*");
        d.typeClash("Int ^Int", "*", "*->a");
        d.clash("type T=Int ^Int;", "*", "*->a");
        d.good(1, "type T=[Int]->Int;");
    }

    private static void kindsOfData() {
        Due.sentence("Of data T a b it is: a's -> (b's -> *)");
        Due d = new Due();
        d.good(4, "data T=A;data U a=B(a Int);data V a b=C(a b)[b];data W a b c=D(b a)(c b);");
        d.declaredKindIs(0, -1, "*");
        d.declaredKindIs(1, -1, "(*->*)->*");
        d.declaredKindIs(2, -1, "(*->*)->*->*");
        d.declaredKindIs(3, -1, "*->(*->*)->((*->*)->*)->*");
    }

    private static void kindsOfSynonyms() {
        Due.sentence("of type S a b: a's -> (b's -> s's), s's being one more KIND");
        Due d = new Due();
        d.good(6, "data L a b=A a b;type S=L;type U a=L;type V a b=L;type W a b c=a(b c);type X f=f;");
        d.declaredKindIs(1, -1, "*->*->*");
        d.declaredKindIs(2, -1, "*->*->*->*");
        d.declaredKindIs(3, -1, "*->*->*->*->*");
        d.declaredKindIs(4, -1, "(*->*)->(*->*)->*->*");
        d.declaredKindIs(5, -1, "*->*");
        d.good(1, "type X f=f;kind X::(*->*)->*->*;");
        d.declaredKindIs(0, -1, "(*->*)->*->*");
        d.declaredKindIs(0, 0, "*->*");
    }

    private static void kindsOfClasses() {
        Due.sentence("of class C a: that of a.");
        Due d = new Due();
        d.good(3, "class C a{};class D a{m::a Int;};class E a{n::a b c;o::b Int;};");
        d.declaredKindIs(0, -1, "*");
        d.declaredKindIs(0, 0, "*");
        d.declaredKindIs(1, -1, "*->*");
        d.declaredKindIs(1, 0, "*->*");
        d.declaredKindIs(2, -1, "*->*->*");
        d.good(1, "kind C::(*->*)->*;class C a{};");
        d.declaredKindIs(0, -1, "(*->*)->*");
        d.declaredKindIs(0, 0, "(*->*)->*");
    }

    private static void names() {
        Due.sentence("x NAMES y if y's BIG stands in a type of x.");
        Due d = new Due();
        d.good(4, "data T=U|V[(Int->S)];data U=T;type S=Int;class C a{m::U->a;};kind T::*;");
        needsAre(d, "0010 0000 0000 0100");
    }

    private static void needsAre(Due d, String rows) {
        String[] due = rows.split(" ");
        for (int i = 0; i < due.length; i++) {
            for (int j = 0; j < due.length; j++) {
                Due.is("needs " + i + " " + j, d.x.needs(i, j), due[i].charAt(j) - '0');
            }
        }
    }

    private static void needs() {
        Due.sentence("x NEEDS y if it NAMES it, or NAMES something that NEEDS it.");
        Due d = new Due();
        d.good(4, "data A=K B;data B=L C;data C=M;data D=N D;");
        needsAre(d, "0110 0010 0000 0001");
        d.good(4, "data A=K B;data B=L C;data C=M A;class D a{m::C;};");
        needsAre(d, "1110 1110 1110 1110");
        d.good(3, "data C=M;data B=L C;data A=K B;");
        needsAre(d, "000 100 110");
        d.good(16, chain(""));
        Due.is("the first of a chain needs the last", d.x.needs(0, 15), 1);
        Due.is("the last of a chain needs none", d.x.needs(15, 0), 0);
        Due.is("nor itself", d.x.needs(15, 15), 0);
        d.good(16, chain(" A"));
        Due.is("the last of a ring needs the first", d.x.needs(15, 0), 1);
        Due.is("and the one before it", d.x.needs(15, 14), 1);
        Due.is("and itself", d.x.needs(15, 15), 1);
    }

    /** Sixteen, each of which names the next; what the last one has is told. */
    private static String chain(String last) {
        StringBuilder text = new StringBuilder();
        for (char c = 'A'; c <= 'P'; c++) {
            text.append("data ").append(c).append("=K").append(c);
            text.append(c == 'P' ? last : " " + (char) (c + 1)).append(";");
        }
        return text.toString();
    }

    private static void groups() {
        Due.sentence("GROUPS: those that NEED one another, and each other one alone.");
        Due d = new Due();
        d.good(0, "");
        d.groupsAre(new int[][] {});
        d.good(16, chain(""));
        Due.is("sixteen alone", d.x.groups(), 16);
        Due.is("the last comes first", d.x.member(0, 0), 15);
        Due.is("the first comes last", d.x.member(15, 0), 0);
        d.good(16, chain(" A"));
        Due.is("one of sixteen", d.x.groups(), 1);
        Due.is("its first", d.x.member(0, 0), 0);
        Due.is("its last", d.x.member(0, 15), 15);
        Due.is("no more", d.x.member(0, 16), -1);
        d.good(5, "data A=K B;data B=L A;data C=M A;data D=N D;data E=O D C;");
        d.groupsAre(new int[][] {{0, 1}, {2}, {3}, {4}});
        d.good(4, "data A=K B;data C=M D;data B=L A;data D=N C;");
        d.groupsAre(new int[][] {{0, 2}, {1, 3}});
    }

    private static void orderOfGroups() {
        Due.sentence("next comes always the GROUP, of those that NEED none in GROUPS that did not come yet "
            + "(but themselves), with the least DECLARED.");
        Due d = new Due();
        d.good(4, "data A=K C;data B=L;data C=M;data D=N;");
        d.groupsAre(new int[][] {{1}, {2}, {0}, {3}});
        d.good(5, "data A=K D;data B=L C;data C=M B;data D=N E;data E=O;");
        d.groupsAre(new int[][] {{1, 2}, {4}, {3}, {0}});
        d.good(4, "data A=K D;data B=L;data C=M;data D=N A;");
        d.groupsAre(new int[][] {{0, 3}, {1}, {2}});
        d.good(4, "data A=K D C;data B=L;data C=M;data D=N A;");
        d.groupsAre(new int[][] {{1}, {2}, {0, 3}});
        d.good(3, "class C a{m::T;};type S=T;data T=K;");
        d.groupsAre(new int[][] {{2}, {0}, {1}});
    }

    private static void toldFirst() {
        Due.sentence("First those of decls kind for what is in the GROUP, from the left: the KIND of the BIG is the one "
            + "told (at that BIG).");
        Due d = new Due();
        d.clash("data T f=A(f Int);kind ^T::*;", "a->*", "*");
        d.clash("data T f=A(f ^Int);kind T::*->*;", "*", "*->a");
        String two = "data A a=K(B a);data B a=M(A a);";
        d.clash(two + "kind ^A::*;kind B::*;", "a->*", "*");
        d.clash(two + "kind ^B::*;kind A::*;", "a->*", "*");
        d.clash(two + "kind B::*->*;kind ^A::*;", "a->*", "*");
        d.clash("data A a=K(B ^a);data B a=M(A a);kind B::(*->*)->*;kind A::*->*;", "(*->*)->*", "*->a");
        d.clash("kind U::*;data T=A(Int ^Int);data U a=B;", "*", "*->a");
        d.clash("kind T::*;kind ^U::*;data U a=B;data T=A(Int Int);", "a->*", "*");
        d.clash("class C a{m::a ^Int;};kind C::*;", "*", "*->a");
        d.clash("data T a b=A;kind ^T::*->*;", "a->b->*", "*->*");
        d.clash("kind ^T::*->*;data T=A;", "*", "*->*");
        d.good(1, "kind T::(*->*)->*->*;data T a b=A;");
        d.declaredKindIs(0, -1, "(*->*)->*->*");
    }

    private static void byNumbers() {
        Due.sentence("Then by numbers, within a decl from the left");
        Due d = new Due();
        d.clash("data A f=K(B f)f;data B f=M(A f)(f ^Int);", "*", "*->a");
        d.clash("data A f=K(B f)(f Int);data B f=M(A f)^f;", "*->*", "*");
        d.clash("data A f=K(B f)(f Int)^f;data B f=M(A f)f;", "*->*", "*");
        d.clash("data A f=K(f Int)|M ^f|N(Int Int);", "*->*", "*");
        d.clash("class C f{m::f;n::f ^Int;};", "*", "*->a");
        d.clash("data A=K(B B);data B=M(Int ^Int);", "*", "*->a");
    }

    private static void equationsOfSomes() {
        Due.sentence("of some (f x y ..): those of f; those of x, then: KIND of f = (KIND of x) -> l, at x's first TOKEN, "
            + "l being the KIND of f x; those of y, then: KIND of f x = (KIND of y) -> m, and so on.");
        Due d = new Due();
        d.clash(L + "type T=(Int ^Int)(L L);", "*", "*->a");
        d.clash(L + "type T=Int(L ^L);", "*->*", "(*->*)->a");
        d.clash(L + "type T=Int ^(L Int)(L L);", "*", "*->a");
        d.clash(L + "type T=Int ^((L))L;", "*", "(*->*)->a");
        d.clash(L + "type T=Int ^[Int];", "*", "*->a");
        d.clash(L + "type T=L ^L;", "*->*", "(*->*)->a");
        d.clash(L + "type T=L Int ^Int;", "*", "*->a");
        d.clash(L + "type T=(L Int)^(Int);", "*", "*->a");
        d.clash(L + "type T=L Int ^L Int;", "*", "(*->*)->a");
        d.clash("data P a b=K a b;type T=P Int(P ^P);", "*->*->*", "(*->*->*)->a");
        d.clash("data P a b=K a b;type T=P Int ^P;", "*->*", "(*->*->*)->a");
        d.clash("data P a b=K a b;type T=P Int Int ^Int;", "*", "*->a");
        d.kindIs("f x (y z)", "*");
    }

    private static void equationsOfArrows() {
        Due.sentence("Of l -> r: those of l, then: KIND of l = *, at l's first TOKEN; those of r, then: KIND of r = *, at r's; "
            + "it has KIND *.");
        Due d = new Due();
        d.clash(L + "type T=L ^L->Int Int;", "*->*", "(*->*)->a");
        d.clash(L + "type T=^L->Int Int;", "*->*", "*");
        d.clash(L + "type T=^(L)->Int Int;", "*->*", "*");
        d.clash(L + "type T=Int->^L;", "*->*", "*");
        d.clash(L + "type T=Int->^(L);", "*->*", "*");
        d.clash(L + "type T=Int->Int->^L;", "*->*", "*");
        d.clash(L + "type T=Int->(Int->^L);", "*->*", "*");
        d.clash(L + "type T=(Int->Int)->(^L->L);", "*->*", "*");
        d.clash("data P a b=K a b;type T=Int->^P Int;", "*->*", "*");
        d.clash("data P a b=K a b;type T=^(P Int)->Int;", "*->*", "*");
        d.clash("type T=(Int->Int)^Int;", "*", "*->a");
        d.clash("type T a=(a->Int)->[a ^a];", "*", "*->a");
        d.kindIs("a->b", "*");
    }

    private static void equationsOfLists() {
        Due.sentence("Of [ t ]: those of t, then: KIND of t = *, at t's first TOKEN; it has *.");
        Due d = new Due();
        d.clash(L + "type T=[^L];", "*->*", "*");
        d.clash(L + "type T=[^(L)];", "*->*", "*");
        d.clash(L + "type T=[[^L]];", "*->*", "*");
        d.clash(L + "type T=[L ^L];", "*->*", "(*->*)->a");
        d.clash(L + "type T=[Int->^L];", "*->*", "*");
        d.clash("data P a b=K a b;type T=[^P Int];", "*->*", "*");
        d.clash("type T=[Int]^Int;", "*", "*->a");
        d.kindIs("[x]", "*");
    }

    private static void equationsOfCons() {
        Due.sentence("of a con, for each one in turn: its own, then: its KIND = *, at its first TOKEN");
        Due d = new Due();
        d.clash(L + "data T=A ^L(Int Int);", "*->*", "*");
        d.clash(L + "data T=A(Int ^Int)L;", "*", "*->a");
        d.clash(L + "data T=A ^(L);", "*->*", "*");
        d.clash(L + "data T=A(L Int)[Int]Int|B Int ^L;", "*->*", "*");
        d.clash(L + "data T=A[^L];", "*->*", "*");
        d.clash("data T a=A a ^T;", "*->*", "*");
        d.good(2, L + "data T=A|B(L Int);");
    }

    private static void equationsOfMethods() {
        Due.sentence("of a method: those of its type, then: its KIND = *, at its first TOKEN");
        Due d = new Due();
        d.clash(L + "class C a{m::^L;};", "*->*", "*");
        d.clash(L + "class C a{m::^(L);};", "*->*", "*");
        d.clash(L + "class C a{m::L ^L;};", "*->*", "(*->*)->a");
        d.clash("data P a b=K a b;class C a{m::Int;n::^P a;};", "*->*", "*");
        d.clash("class C a{m::a Int;n::^(a);};", "*->*", "*");
        d.good(1, "class C a{m::a;n::a->b;};");
    }

    private static void equationsOfSynonyms() {
        Due.sentence("of a decl type: those of its right side, then: its KIND = s's, at its first TOKEN.");
        Due d = new Due();
        d.clash(L + "kind S::*;type S=^L;", "*->*", "*");
        d.clash(L + "kind S::*;type S=^(L);", "*->*", "*");
        d.clash(L + "kind S::*->*;type S=^L Int;", "*", "*->*");
        d.clash(L + "kind S::*;type S=L ^L;", "*->*", "(*->*)->a");
        d.clash("kind S::*->*->*;type S f=^f;", "*", "*->*");
        d.good(2, L + "kind S::*->*;type S=L;");
        d.good(2, L + "type S=L;");
    }

    private static void firstWithNoKinds() {
        Due.sentence("FAULT 6 is the first EQUATION that no KINDS (these have an end) make true together with those before "
            + "it in its GROUP, KINDS of GROUPS before being as they came out.");
        Due d = new Due();
        d.clash("type T a=a ^a;", "a", "a->b");
        d.clash("data T a=A(a ^T);", "a", "(a->*)->b");
        d.clash("class C a{m::f g->g ^f;};", "a", "(a->*)->b");
        d.clash("class C a{m::g f->g ^(f x);};", "(a->b)->*", "b->c");
        d.clash("class C a{m::f g->g h->h ^f;};", "a", "((a->*)->*)->b");
        d.good(1, "class C a{m::f x->f y->x Int->y z;};");
        d.clash("data T f=A(f Int)|B ^f|C(Int Int);", "*->*", "*");
        d.clash("data P a=A;type S=P ^P;", "*->*", "(*->*)->a");
        d.good(2, "data P a=A S;type S=P Int;");
        d.clash("data T=A(P ^L);data P a=B;" + L, "*->*", "(*->*)->a");
        d.good(2, "data P a=A(P L);" + L);
        d.clash("data P a=A(P L)|B(P ^Int);" + L, "(*->*)->*", "*->a");
    }

    private static void open() {
        Due.sentence("Places of KINDS that the EQUATIONS of a GROUP leave to be anything are OPEN; behind the GROUP they are *.");
        Due d = new Due();
        d.good(3, "data P a b=A;data Q f a=B(f a);class C a{m::a x;};");
        d.declaredKindIs(0, -1, "*->*->*");
        d.declaredKindIs(1, -1, "(*->*)->*->*");
        d.declaredKindIs(2, -1, "*->*");
        Due.is("open in P", d.x.told(0, 5), 2);
        Due.is("open in Q", d.x.told(1, 5), 2);
        Due.is("open in C", d.x.told(2, 5), 1);
        d.kindIs("P Int", "*->*");
        d.typeClash("P ^P", "*->*->*", "(*->*->*)->a");
        d.good(2, "data A a=K(B a);data B a=M(A a);");
        d.declaredKindIs(1, -1, "*->*");
        Due.is("open in B", d.x.told(1, 5), 1);
        d.good(3, "data A a=K(B a);data B a=M(A a)(A L);" + L);
        d.declaredKindIs(0, -1, "(*->*)->*");
        Due.is("nothing open in A", d.x.told(0, 5), 0);
    }

    private static void shown() {
        Due.sentence("SHOWN, a KIND is * or its left side, ->, its right side, without blanks, the left one in ( ) if it has a "
            + "-> itself.");
        String[] kinds = {"*->*", "*->*->*", "(*->*)->*", "((*->*)->*)->*", "(*->*->*)->*", "*->(*->*)->*",
            "(*->*)->(*->*)->*", "((*->*)->*->*)->*->*"};
        Due d = new Due();
        for (String kind : kinds) {
            d.good(1, "kind C::" + kind + ";class C a{};");
            d.declaredKindIs(0, -1, kind);
        }
        d.good(1, "kind C :: ( * ) -> ( ( * -> ( * ) ) -> ( * -> * ) ) ; class C a { } ;");
        d.declaredKindIs(0, -1, "*->(*->*)->*->*");
        d.kindIs("Int", "*");
    }

    private static void sidesAsBefore() {
        Due.sentence("Of FAULT 6 both sides are SHOWN as EQUATIONS before make them");
        Due d = new Due();
        d.typeClash("[f g]->[g x]->[h Int Int]->f ^h", "(a->*)->*", "(*->*->*)->b");
        d.typeClash("[f g]->[g x]->[h Int Int]->[x]->f ^h", "(*->*)->*", "(*->*->*)->a");
        d.typeClash("[f x]->[x]->^f", "*->*", "*");
        d.typeClash("[f x]->^f->[x]", "a->*", "*");
        d.typeClash("[f x y]->[y]->f ^f", "a->*->*", "(a->*->*)->b");
        d.clash("data T f x=A(f x)|B ^f|C x;", "a->*", "*");
    }

    private static void letters() {
        Due.sentence("what is OPEN there is a letter, a, b, .., z (like ones the same letter, all further ones z), in the order "
            + "in which they are come to, from the left side's first on.");
        Due d = new Due();
        d.typeClash("[f x y x]->f ^f", "a->b->a->*", "(a->b->a->*)->c");
        d.typeClash("[f y x]->[g x y z]->[f ^g]", "a->b->*", "(b->a->c->*)->d");
        d.typeClash("[f(x y)y]->[^f z]", "a->*", "*");
        for (int open = 24; open <= 28; open++) {
            manyLetters(open);
        }
    }

    /** A kind with so many open ones left, and in ( ) right with one more behind it. */
    private static void manyLetters(int open) {
        StringBuilder ones = new StringBuilder();
        StringBuilder left = new StringBuilder();
        for (int i = 0; i < open; i++) {
            ones.append(" x").append(i);
            left.append((char) ('a' + Math.min(i, 25))).append("->");
        }
        left.append('*');
        String last = "" + (char) ('a' + Math.min(open, 25));
        new Due().typeClash("[f" + ones + "]->f ^f", left.toString(), "(" + left + ")->" + last);
    }
}
