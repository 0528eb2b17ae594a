/** Promises 4, 6 and 7: read with fault 6, its sides, and what was shown last. */
public final class ClashTest {
    public static void main(String[] args) {
        places();
        kindsWithoutEnd();
        orderOfEquations();
        orderOfGroups();
        toldKinds();
        openBecomesStar();
        freeNames();
        letters();
        asking();
        tooLong();
        shownLast();
        Due.end();
    }

    private static void places() {
        Due d = new Due();
        d.clashIs("data L a = A a ; data T = B L ;", 28, "*->*", "*");
        d.clashIs("data L a = A a ; data T = B (L) ;", 28, "*->*", "*");
        d.clashIs("data L a = A a ; data T = B [L] ;", 29, "*->*", "*");
        d.clashIs("data L a = A a ; data T = B [(L)] ;", 29, "*->*", "*");
        d.clashIs("data L a = A a ; type T = L -> Int ;", 26, "*->*", "*");
        d.clashIs("data L a = A a ; type T = Int -> (L) ;", 33, "*->*", "*");
        d.clashIs("data L a = A a ; type T = Int -> Int -> L ;", 40, "*->*", "*");
        d.clashIs("data L a = A a ; type T = L Int Int ;", 32, "*", "*->a");
        d.clashIs("data L a = A a ; type T = (L Int) Int ;", 34, "*", "*->a");
        d.clashIs("data L a = A a ; type T = L (L) ;", 28, "*->*", "(*->*)->a");
        d.clashIs("type T = [Int] Int ;", 15, "*", "*->a");
        d.clashIs("type T = (Int -> Int) Int ;", 22, "*", "*->a");
        d.clashIs("type T a = (a -> Int) -> [a a] ;", 28, "*", "*->a");
        d.clashIs("class C a { m :: a Int -> b ; n :: a ; } ;", 35, "*->*", "*");
        d.clashIs("class C a { m :: (b Int) (a) ; n :: (a a) ; } ;", 39, "a", "a->b");
    }

    private static void kindsWithoutEnd() {
        Due d = new Due();
        d.clashIs("type T a = a a ;", 13, "a", "a->b");
        d.clashIs("data T a = A (T a) | B (a T) | C (a a) ;", 26, "a", "(a->*)->b");
        d.clashIs("class C a { m :: g f -> g (f x) ; } ;", 26, "(a->b)->*", "b->c");
        d.clashIs("class C a { m :: f g -> g f ; } ;", 26, "a", "(a->*)->b");
        d.clashIs("class C a { m :: f g -> g h -> h f ; } ;", 33, "a", "((a->*)->*)->b");
    }

    private static void orderOfEquations() {
        Due d = new Due();
        d.clashIs("data T f = A (f Int) | B (f f) ;", 28, "*->*", "(*->*)->a");
        d.clashIs("data T f = A (f f) | B (f Int) ;", 16, "a", "a->b");
        d.clashIs("data T f = A (f Int) f ;", 21, "*->*", "*");
        d.clashIs("data T f = A f (f Int) ;", 18, "*", "*->a");
        d.clashIs("type S f = f Int -> f ;", 20, "*->*", "*");
        d.clashIs("type S f x = f x (f x) ;", 17, "a", "a->b");
    }

    private static void orderOfGroups() {
        Due d = new Due();
        d.clashIs("data A = K (B B) ; data B = L (Int Int) ;", 35, "*", "*->a");
        d.clashIs("data A f = K (B f) f ; data B f = L (A f) (f Int) ;", 45, "*", "*->a");
        d.clashIs("data A = K (Int Int) ; data B = L (Int Int) ;", 16, "*", "*->a");
        d.clashIs("data T = A (P L) ; data P a = B ; data L a = C a ;", 14, "*->*", "(*->*)->a");
    }

    private static void toldKinds() {
        Due d = new Due();
        d.clashIs("kind T :: * -> * ; data T f = A (f Int) ;", 35, "*", "*->a");
        d.clashIs("data T f = A (f Int) ; kind T :: * ;", 28, "a->*", "*");
        d.clashIs("data T a b = A ; kind T :: * -> (* -> *) -> * -> * ;", 22, "a->b->*", "*->(*->*)->*->*");
        d.clashIs("kind C :: * ; class C f { m :: f Int ; } ;", 33, "*", "*->a");
        d.clashIs("kind S :: * -> * ; data L a b = A ; type S a = L ;", 47, "*->*->*", "*");
        d.clashIs("data A a = K (B a) ; data B a = L (A a) ; kind B :: (*->*) -> * ; kind A :: * -> * ;",
            16, "(*->*)->*", "*->a");
    }

    private static void openBecomesStar() {
        Due d = new Due();
        d.clashIs("data P a = A ; data L a = B a ; type S = P L ;", 43, "*->*", "(*->*)->a");
        d.readIs("data P a = A (P L) ; data L a = B a ;", 2, -3);
        d.declaredKindIs(0, -1, "(*->*)->*");
    }

    private static void freeNames() {
        Due d = new Due();
        d.readIs("class C a { m :: x Int ; n :: x ; o :: a -> x a ; } ;", 1, -3);
        d.clashIs("class C a { m :: x Int -> x ; } ;", 26, "*->*", "*");
        d.clashIs("class C a { m :: a x -> x Int ; n :: a Int ; } ;", 39, "(*->*)->*", "*->a");
    }

    private static void letters() {
        Due d = new Due();
        StringBuilder left = new StringBuilder();
        StringBuilder ones = new StringBuilder();
        for (int i = 0; i < 28; i++) {
            ones.append(" x").append(i);
            left.append((char) ('a' + Math.min(i, 25))).append("->");
        }
        left.append("*");
        String type = "[f" + ones + "] -> f f";
        d.kindFails(type, -16, type.length() - 1);
        d.sidesAre(type, left.toString(), "(" + left + ")->z");
        String few = "[f x y x] -> f (g y z) f";
        d.kindFails(few, -16, few.length() - 1);
        d.sidesAre(few, "a->b->*", "(b->a->b->*)->c");
    }

    private static void asking() {
        Due d = new Due();
        Due.is("side of nothing", d.x.side(1), -3);
        Due.is("no such side", d.x.side(2), -2);
        Due.is("no such side", d.x.side(-1), -2);
        d.clashIs("type T = Int Int ;", 13, "*", "*->a");
        Due.is("no such side", d.x.side(2), -2);
        Due.is("no such side", d.x.side(Integer.MIN_VALUE), -2);
        Due.is("again", d.x.side(1), 4);
        d.readIs("type T = T ;", -14, 5);
        Due.is("side of a ring", d.x.side(0), -3);
        d.readIs("type T = Int ;", 1, -3);
        Due.is("side of no fault", d.x.side(0), -3);
        d.kindFails("T T", -16, 2);
        d.sidesAre("T T", "*", "*->a");
        d.plainFails("T (T x)", -16, 5);
        d.sidesAre("T (T x)", "*", "a->b");
        d.sameIs("T, a a", -16, 5);
        d.sidesAre("T, a a", "a", "a->b");
        d.kindFails("(", -11, 1);
        Due.is("side of a misfit", d.x.side(0), -3);
    }

    private static void tooLong() {
        Due d = new Due();
        d.read(Due.longText(329, ""));
        d.kindFails("T T", -16, 2);
        Due.is("2000 bytes", d.x.side(0), 2000);
        Due.is("the last of them", d.x.out(1999), '*');
        Due.is("none behind", d.x.out(2000), -1);
        Due.is("2005 bytes", d.x.side(1), -4);
        Due.is("still the last one", d.x.out(1999), '*');
        d.read(Due.longText(326, " Int"));
        d.kindFails("Int V", -16, 4);
        Due.is("2000 bytes", d.x.side(1), 2000);
        Due.is("the last of them", d.x.out(1999), 'a');
        d.read(Due.longText(325, ""));
        d.kindFails("Int W", -16, 4);
        Due.is("2001 bytes", d.x.side(1), -4);
        Due.is("the left side", d.x.side(0), 1);
        d = new Due();
        d.read(Due.longText(325, ""));
        String doubled = "[p x y]->[q p p]->[r q q]->[s r r]->[t s s]->[u t t]->[v u u]->[w v v]->[k w w]->w x z";
        d.kindFails(doubled, -16, doubled.length() - 3);
        Due.is("left is too long", d.x.side(0), -4);
        Due.is("right has its letters from the left", d.x.side(1), 4);
        Due.is("right", d.shown(), "a->c");
    }

    private static void shownLast() {
        Due d = new Due();
        d.read("data L a = A a ; type S = Int ;");
        Due.is("nothing yet", d.x.out(0), -1);
        d.kindIs("L", "*->*");
        Due.is("out below", d.x.out(-1), -1);
        Due.is("out far below", d.x.out(Integer.MIN_VALUE), -1);
        Due.is("out last", d.x.out(3), '*');
        Due.is("out behind", d.x.out(4), -1);
        Due.is("out far behind", d.x.out(Integer.MAX_VALUE), -1);
        d.kindFails("L L", -16, 2);
        Due.is("a refusal leaves it", d.shown(), "*->*");
        d.plainFails("L L", -16, 2);
        Due.is("a refusal leaves it", d.shown(), "*->*");
        d.x.kindOf(2, -1);
        Due.is("a refusal leaves it", d.shown(), "*->*");
        d.sameIs("S, Int", 1, -3);
        Due.is("same shows nothing", d.shown(), "*->*");
        d.plainIs("L S", "L Int");
        d.x.side(0);
        Due.is("a refusal leaves it", d.shown(), "L Int");
        d.read("data M = A ;");
        Due.is("read shows nothing", d.shown(), "L Int");
        d.read("data M = ");
        Due.is("read shows nothing", d.shown(), "L Int");
    }
}
