/** Promises 13, 14 and 15: kind, plain and same. */
public final class AskedTest {
    private static final String TEXT = "data L a = N | C a (L a) ; data F f a = G (f a) ; type S a b = F L a ;"
        + "class K m { u :: m Int ; } ; data P a b = Q a b ; type R = P Int ; type I a = a ; type W a b = b -> a ;"
        + "kind H :: (* -> *) -> * -> * ; type H f = f ;";

    public static void main(String[] args) {
        kindsOfTypes();
        kindsNotFound();
        longKinds();
        withoutSynonyms();
        brackets();
        noPlain();
        roomOnTheWay();
        replacements();
        longestShown();
        alike();
        notAlike();
        noSame();
        Due.end();
    }

    private static Due asked() {
        Due d = new Due();
        Due.is("read", d.read(TEXT), 9);
        return d;
    }

    private static void kindsOfTypes() {
        Due d = asked();
        d.kindIs("Int", "*");
        d.kindIs(" ( L )\n", "*->*");
        d.kindIs("F", "(*->*)->*->*");
        d.kindIs("F L", "*->*");
        d.kindIs("F f", "*->*");
        d.kindIs("R", "*->*");
        d.kindIs("S Int Int", "*");
        d.kindIs("a", "*");
        d.kindIs("f x", "*");
        d.kindIs("f a -> [f b]", "*");
        d.kindIs("I Int -> I (I a)", "*");
        Due.is("used up", d.x.cut(1), -2);
        Due e = new Due();
        e.kindIs("Int -> [x]", "*");
        e.kindFails("L", -13, 0);
    }

    private static void kindsNotFound() {
        Due d = asked();
        d.kindFails("", -11, 0);
        d.kindFails("  ", -11, 2);
        d.kindFails("Int )", -11, 4);
        d.kindFails("Int ;", -11, 4);
        d.kindFails("Int, Int", -11, 3);
        d.kindFails("data", -11, 0);
        d.kindFails("(Int", -11, 4);
        d.kindFails("Int ->", -11, 6);
        d.kindFails("Int -> -> Int", -11, 7);
        d.kindFails("toolongname", -11, 0);
        d.kindFails("(((((((((Int)))))))))", -12, 8);
        d.kindFails("((((((((Int)))))))) ((((((((", -11, 28);
        d.kindFails(Due.times("a->", 100) + "a", -12, 300);
        d.kindIs(Due.times("a->", 99) + "[a]", "*");
        d.kindFails("Int -> X -> Y", -13, 7);
        d.kindFails("K", -13, 0);
        d.kindFails("Q", -13, 0);
        d.kindFails("S a -> X", -13, 7);
        d.kindFails("S", -15, 0);
        d.kindFails("Int Int -> S Int", -15, 11);
        d.kindFails("L I", -15, 2);
        d.kindFails("x (I)", -15, 3);
        d.kindFails("L L", -16, 2);
        d.sidesAre("L L", "*->*", "(*->*)->a");
        d.kindFails("f Int -> [f]", -16, 10);
        d.sidesAre("f Int -> [f]", "*->*", "*");
        d.kindFails("F Int", -16, 2);
        Due.is("what was read stays", d.x.told(7, 0), 1);
        Due.is("used up by a fault", d.x.cut(1), -2);
    }

    private static void longKinds() {
        Due d = new Due();
        d.read(Due.longText(329, ""));
        Due.is("kind of 2000 bytes", d.kind("T"), 2000);
        Due.is("its last", d.x.out(1999), '*');
        Due.is("kind of 2010 bytes", d.kind("V"), -4);
        Due.is("that is no fault", d.x.place(), -3);
        Due.is("nor has it sides", d.x.side(0), -3);
        Due.is("still shown", d.x.out(1999), '*');
        d.read(Due.longText(327, " Int"));
        Due.is("kind of 2001 bytes", d.kind("V"), -4);
        Due.is("used up by a refusal", d.x.cut(1), -2);
    }

    private static void withoutSynonyms() {
        Due d = asked();
        d.plainIs("Int", "Int");
        d.plainIs("S Int x -> [L y]", "F L Int->[L y]");
        d.plainIs("R", "P Int");
        d.plainIs("R x", "P Int x");
        d.plainIs("f R", "f (P Int)");
        d.plainIs("f R -> R x", "f (P Int)->P Int x");
        d.plainIs("I x", "x");
        d.plainIs("H f x", "f x");
        d.plainIs("H R (I x)", "P Int x");
        d.plainIs("H (H L) (I (L y))", "L (L y)");
        d.plainIs("f (H L) (H L x)", "f L (L x)");
        d.plainIs("H (f R) x", "f (P Int) x");
        d.plainIs("W a b", "b->a");
        d.plainIs("W (W a b) (W c d)", "(d->c)->b->a");
        d.plainIs("W a (I b) -> [W a b]", "(b->a)->[b->a]");
        d.plainIs("L (W a b)", "L (b->a)");
        d.plainIs("a (I (L Int)) (I Int) (I [x])", "a (L Int) Int [x]");
        Due e = new Due();
        e.plainIs("(x -> Int)", "x->Int");
        e.read("type A = B -> B ; type B = C C ; type C = D ; data D = E ;");
        e.plainFails("A", -13, 0);
        e.read("type A f = B f -> B f ; type B f = f C ; type C = D ; data D = E ; type X a b c = c a b ;");
        e.plainIs("A g", "g D->g D");
        e.plainIs("X (A x) C (y z)", "y z (x D->x D) D");
    }

    private static void brackets() {
        Due d = asked();
        d.plainIs("(((a)))", "a");
        d.plainIs("((f) (x))", "f x");
        d.plainIs("(f x) y", "f x y");
        d.plainIs("f (x y)", "f (x y)");
        d.plainIs("(f x) -> (g y)", "f x->g y");
        d.plainIs("a -> (b -> c)", "a->b->c");
        d.plainIs("(a -> b) -> c", "(a->b)->c");
        d.plainIs("((a -> b) -> c) -> d", "((a->b)->c)->d");
        d.plainIs("[(a -> b)]", "[a->b]");
        d.plainIs("[(f x)]", "[f x]");
        d.plainIs("[([a])]", "[[a]]");
        d.plainIs("f [a] ([b -> c])", "f [a] [b->c]");
        d.plainIs("f(a->b)(g[x])", "f (a->b) (g [x])");
        d.plainIs("f ((g (h x)) y) z", "f (g (h x) y) z");
        d.plainIs("((f (a)) -> (b)) -> [((c) -> d)]", "(f a->b)->[c->d]");
    }

    private static void noPlain() {
        Due d = asked();
        d.plainFails("", -11, 0);
        d.plainFails("I x)", -11, 3);
        d.plainFails("I x,I x", -11, 3);
        d.plainFails("[[[[[[[[[a]]]]]]]]]", -12, 8);
        d.plainFails("I Z", -13, 2);
        d.plainFails("K", -13, 0);
        d.plainFails("I", -15, 0);
        d.plainFails("I Int -> R I", -15, 11);
        d.plainFails("I Int Int", -16, 6);
        d.sidesAre("I Int Int", "*", "*->a");
        d.plainFails("S L x", -16, 2);
        d.sidesAre("S L x", "*->*->*", "(*->*)->a");
        d.plainIs("x", "x");
        Due.is("no place then", d.x.place(), -3);
        Due.is("used up", d.x.cut(1), -2);
    }

    private static void roomOnTheWay() {
        Due d = new Due();
        d.read("type D a = a -> a ; type Q a = D (D (D (D (D (D a))))) ; type G a b c = Int ; type M a = G a a a ;"
            + "type N a = Int ; type O a = N (Q (Q a)) ; type T a b c = [c] -> [b] -> [a] ; data U f = V (f Int) ;");
        Due.is("127 nodes", d.plain("Q x"), 64 + 2 * 63 + 2 * 31);
        String half = Due.times("x->", 49) + "x";
        d.plainIs("D (" + half + ")", "(" + half + ")->" + half);
        d.plainIs("[D (" + half + ")]", "[(" + half + ")->" + half + "]");
        d.plainFails("D [" + half + "]", -4, -3);
        d.plainFails("[[D (" + half + ")]]", -4, -3);
        d.plainIs("N (D (" + half + "))", "Int");
        d.plainIs("O x", "Int");
        d.plainFails("M (" + half + ")", -4, -3);
        Due.is("still shown", d.shown(), "Int");
        Due.is("used up", d.x.cut(1), -2);
        d.plainIs("M (" + Due.times("x->", 32) + "x)", "Int");
        d.plainFails("M (" + Due.times("x->", 33) + "x)", -4, -3);
        d.plainIs("M [" + Due.times("x->", 32) + "x]", "Int");
        Due.is("no sides", d.x.side(0), -3);
    }

    private static void replacements() {
        Due d = new Due();
        d.read("type I a = a ; type J a = I (I (I (I a))) ; type E = Int ;");
        String sixty = Due.times("J x->", 59) + "J x";
        d.plainIs(sixty, Due.times("x->", 59) + "x");
        d.plainFails(sixty + "->E", -4, -3);
        d.plainFails("E->" + sixty, -4, -3);
        d.plainIs(sixty + "->x", Due.times("x->", 60) + "x");
    }

    private static void longestShown() {
        Due d = new Due();
        d.read("data Abcdefgh a=A;type T a=Abcdefgh(Abcdefgh(Abcdefgh(Abcdefgh(Abcdefgh(Abcdefgh a)))));"
            + "type U a=T(T(T(T(T(T a)))));type V a=U(U(U(U(U a))));");
        String type = "V(T(T(T(Abcdefgh xxxxxxxx))))";
        Due.is("200 nodes", d.plain(type), 200 * 8 + 199 + 2 * 198);
        Due.is("its last byte", d.x.out(2194), ')');
        Due.is("behind it", d.x.out(2195), -1);
        Due.is("201 nodes", d.plain("V(T(T(T(Abcdefgh(Abcdefgh x)))))"), -4);
    }

    private static void alike() {
        Due d = asked();
        d.sameIs("Int,Int", 1, -3);
        d.sameIs("S a b , F L a", 1, -3);
        d.sameIs("f (g x), (f) (g x)", 1, -3);
        d.sameIs("a -> b -> c, a -> (b -> c)", 1, -3);
        d.sameIs("W a b, b->a", 1, -3);
        d.sameIs("R, P Int", 1, -3);
        d.sameIs("R x, P Int x", 1, -3);
        d.sameIs("I (I x), I x", 1, -3);
        d.sameIs("f Int, f Int", 1, -3);
        Due.is("used up", d.x.cut(1), -2);
        Due.is("nothing is shown", d.x.out(0), -1);
    }

    private static void notAlike() {
        Due d = asked();
        d.sameIs("a, b", 0, -3);
        d.sameIs("a, aa", 0, -3);
        d.sameIs("a, f a", 0, -3);
        d.sameIs("f a, f b", 0, -3);
        d.sameIs("f a b, f (a b)", 0, -3);
        d.sameIs("(a -> b) -> c, a -> b -> c", 0, -3);
        d.sameIs("[a], a", 0, -3);
        d.sameIs("[a] -> b, [a -> b]", 0, -3);
        d.sameIs("S a b, S b a", 0, -3);
        d.sameIs("S a b, S a c", 1, -3);
        d.sameIs("f Int, f", 0, -3);
        d.sameIs("f Int -> Int, [f]", 0, -3);
    }

    private static void noSame() {
        Due d = asked();
        d.sameIs("", -11, 0);
        d.sameIs("Int", -11, 3);
        d.sameIs("Int,", -11, 4);
        d.sameIs(",Int", -11, 0);
        d.sameIs("Int,Int,Int", -11, 7);
        d.sameIs("X, )", -11, 3);
        d.sameIs("a, (((((((((a)))))))))", -12, 11);
        String half = Due.times("a->", 49) + "[a]";
        d.sameIs(half + "," + half, 1, -3);
        d.sameIs(half + ",[" + half + "]", -12, 300);
        d.sameIs("S, X", -13, 3);
        d.sameIs("X, Y", -13, 0);
        d.sameIs("Int Int, S", -15, 9);
        d.sameIs("I, S", -15, 0);
        d.sameIs("Int L, L L", -16, 4);
        d.sidesAre("Int L, L L", "*", "(*->*)->a");
        d.sameIs("Int, L L", -16, 7);
        d.sidesAre("Int, L L", "*->*", "(*->*)->a");
        d.read("type D a = a -> a ; type Q a = D (D (D (D (D (D (D a)))))) ; data L a = A ;");
        d.sameIs("Q a, b", -4, -3);
        d.sameIs("b, Q a", -4, -3);
        d.sameIs("Q a, L L", -16, 7);
        d.sameIs("Q a, Q a", -4, -3);
        Due.is("used up", d.x.cut(1), -2);
    }
}
