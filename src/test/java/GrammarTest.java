/** Promises 4 and 5: read and place, with tokens and the faults 1 and 2. */
public final class GrammarTest {
    public static void main(String[] args) {
        goodTexts();
        badTokens();
        misfits();
        misfitsAtTheEnd();
        tooManyDeclared();
        tooManyParts();
        tooDeep();
        tooManyNodes();
        whichComesFirst();
        readStartsAnew();
        Due.end();
    }

    private static void goodTexts() {
        Due d = new Due();
        d.readIs("", 0, -3);
        d.readIs(" \n ", 0, -3);
        d.readIs("data T = A ;", 1, -3);
        d.readIs("data T=A;", 1, -3);
        d.readIs("\ndata\nT\na\n=\nA\na\n;\n", 1, -3);
        d.readIs("data T a b c = A | B a | C (a) [b] (a->b->c) ;", 1, -3);
        d.readIs("type S=Int->[Int]->Int;", 1, -3);
        d.readIs("class C a { } ; class D a { m :: a ; n :: b -> a ; } ;", 2, -3);
        d.readIs("kind T :: (*->*)->* ; data T a = A ;", 1, -3);
        d.readIs("data T=A;kind T::(((*)));", 1, -3);
        d.readIs("data Datatype kinds = Class kinds ; type Kind dat1 = dat1 ;", 2, -3);
        d.readIs("data Abcdefg8 abcdefg8 = A abcdefg8 ;", 1, -3);
    }

    private static void badTokens() {
        Due d = new Due();
        d.readIs("data T = A . ;", -11, 11);
        d.readIs("data T = A 1 ;", -11, 11);
        d.readIs("data T = A\t;", -11, 10);
        d.readIs("data T = A\0;", -11, 10);
        d.readIs("data T = A_ ;", -11, 10);
        d.readIs("data T = A' ;", -11, 10);
        d.readIs("\u00e9", -11, 0);
        d.readIs("data Abcdefg89 = A ;", -11, 5);
        d.readIs("data T abcdefg89 = A ;", -11, 7);
        d.readIs("data T = Abcdefghijklmnopqrstuvwxyz ;", -11, 9);
        d.readIs("class C a { m : a ; } ;", -11, 14);
        d.readIs("class C a { m ::: a ; } ;", -11, 16);
        d.readIs("type T = Int - Int ;", -11, 13);
        d.readIs("type T = Int > Int ;", -11, 13);
        d.readIs("type T = Int -", -11, 13);
        d.readIs("kind T :", -11, 7);
    }

    private static void misfits() {
        Due d = new Due();
        d.readIs("T", -11, 0);
        d.readIs(";", -11, 0);
        d.readIs("data t = A ;", -11, 5);
        d.readIs("data data = A ;", -11, 5);
        d.readIs("data T A = A ;", -11, 7);
        d.readIs("data T = a ;", -11, 9);
        d.readIs("data T = ;", -11, 9);
        d.readIs("data T = A | ;", -11, 13);
        d.readIs("data T = A -> B ;", -11, 11);
        d.readIs("data T = A , B ;", -11, 11);
        d.readIs("data T = A () ;", -11, 12);
        d.readIs("data T = A [] ;", -11, 12);
        d.readIs("data T = A (Int] ;", -11, 15);
        d.readIs("data T = A [Int) ;", -11, 15);
        d.readIs("data T = A type ;", -11, 11);
        d.readIs("data T = A ; ;", -11, 13);
        d.readIs("type S = ;", -11, 9);
        d.readIs("type S = -> Int ;", -11, 9);
        d.readIs("type S = Int -> ;", -11, 16);
        d.readIs("type S = Int | Int ;", -11, 13);
        d.readIs("type S = Int * ;", -11, 13);
        d.readIs("class C { } ;", -11, 8);
        d.readIs("class C a b { } ;", -11, 10);
        d.readIs("class C a { M :: a ; } ;", -11, 12);
        d.readIs("class C a { m :: a } ;", -11, 19);
        d.readIs("class C a { m = a ; } ;", -11, 14);
        d.readIs("class C a = A ;", -11, 10);
        d.readIs("kind t :: * ;", -11, 5);
        d.readIs("kind T a :: * ;", -11, 7);
        d.readIs("kind T = * ;", -11, 7);
        d.readIs("kind T :: Int ;", -11, 10);
        d.readIs("kind T :: [*] ;", -11, 10);
        d.readIs("kind T :: * * ;", -11, 12);
        d.readIs("kind T :: * -> ;", -11, 15);
        d.readIs("kind T :: (* ;", -11, 13);
        d.readIs("kind T :: () ;", -11, 11);
    }

    private static void misfitsAtTheEnd() {
        Due d = new Due();
        d.readIs("data", -11, 4);
        d.readIs("data T", -11, 6);
        d.readIs("data T = A", -11, 10);
        d.readIs("data T = A   ", -11, 13);
        d.readIs("data T = A (Int", -11, 15);
        d.readIs("class C a {", -11, 11);
        d.readIs("class C a { m :: a ;\n", -11, 21);
        d.readIs("kind T ::", -11, 9);
        d.readIs("kind T :: *", -11, 11);
        StringBuilder full = new StringBuilder("data T = A ");
        while (full.length() < 1200) {
            full.append(' ');
        }
        d.readIs(full.toString(), -11, 1200);
        full.setCharAt(1199, ';');
        d.readIs(full.toString(), 1, -3);
    }

    private static void tooManyDeclared() {
        Due d = new Due();
        StringBuilder all = new StringBuilder();
        for (int i = 0; i < 16; i++) {
            all.append(i % 2 == 0 ? "class D" : "type D").append(i).append(i % 2 == 0 ? " a { } ;" : " = Int ;");
        }
        String sixteen = all.toString();
        d.readIs(sixteen, 16, -3);
        d.readIs(sixteen + "kind D0 :: * ;", 16, -3);
        d.readIs(sixteen + "data X = A ;", -12, sixteen.length() + 5);
        d.readIs(sixteen + "class", -11, sixteen.length() + 5);
        d.readIs(sixteen + "data x", -11, sixteen.length() + 5);
        d.readIs(sixteen + "kind X :: * ;", -13, sixteen.length() + 5);
    }

    private static void tooManyParts() {
        Due d = new Due();
        d.readIs("data T a b c = A ;", 1, -3);
        d.readIs("data T a b c d = A ;", -12, 13);
        d.readIs("type T a b c e f = a ;", -12, 13);
        d.readIs("data T = A | B | C | D | E | F ;", 1, -3);
        d.readIs("data T = A | B | C | D | E | F | G ;", -12, 33);
        d.readIs("data T = A | B | C | D | E | F | g ;", -11, 33);
        d.readIs("class C a { m :: a ; n :: a ; o :: a ; p :: a ; } ;", 1, -3);
        d.readIs("class C a { m :: a ; n :: a ; o :: a ; p :: a ; q :: a ; } ;", -12, 48);
        d.readIs("class C a { m :: a ; n :: a ; o :: a ; p :: a ; ; } ;", -11, 48);
    }

    private static void tooDeep() {
        Due d = new Due();
        d.readIs("type T = " + nested("(", "Int", ")", 8) + ";", 1, -3);
        d.readIs("type T = " + nested("(", "Int", ")", 9) + ";", -12, 17);
        d.readIs("type T = " + nested("[", "Int", "]", 8) + ";", 1, -3);
        d.readIs("type T = " + nested("[", "Int", "]", 9) + ";", -12, 17);
        d.readIs("type T = " + nested("([", "Int", "])", 4) + ";", 1, -3);
        d.readIs("type T = [([([([(Int -> [Int] )])])])];", -12, 24);
        d.readIs("data T = A " + nested("(", "Int", ")", 8) + nested("[", "Int", "]", 8) + ";", 1, -3);
        d.readIs("data T = A " + nested("(", "Int", ")", 9) + ";", -12, 19);
        d.readIs("class C a { m :: " + nested("(", "a", ")", 9) + ";};", -12, 25);
        d.readIs("kind T :: " + nested("(", "*", ")", 8) + ";data T = A;", 1, -3);
        d.readIs("kind T :: " + nested("(", "*", ")", 9) + ";data T = A;", -12, 18);
        d.readIs("kind T :: * -> " + nested("(", "*", ")", 9) + ";", -12, 23);
    }

    /** 66 rows of `Int->` are 132 nodes, a last one makes 133; 33 of `[Int]` with blanks are 66. */
    private static void tooManyNodes() {
        Due d = new Due();
        String full = "type T=" + Due.times("a->", 99) + "a a";
        d.readIs(full + ";", -13, 7);
        d.readIs(full + " a;", -12, full.length() + 1);
        d.readIs(full + "[", -12, full.length());
        d.readIs(full + "(a", -12, full.length() + 1);
        d.readIs(full + "->", -12, full.length());
        d.readIs(full + " A", -12, full.length() + 1);
        d.readIs(full + "]", -11, full.length());
        String lists = "data T a=A" + Due.times("[a]", 99) + "(a)a";
        d.readIs(lists + ";", 1, -3);
        d.readIs(lists + "|B;", 1, -3);
        d.readIs(lists + "|B a;", -12, lists.length() + 3);
        d.readIs(lists + ";class C m{x::m;};", -12, lists.length() + 14);
        d.readIs(lists + ";class C m{};kind T::*->*->*;", -16, lists.length() + 18);
        d.readIs(lists + ";kind C::*->*->(*->*);class C m{};", 2, -3);
    }

    private static void whichComesFirst() {
        Due d = new Due();
        d.readIs("data T a b c d = A . ;", -12, 13);
        d.readIs("data T . a b c d = A ;", -11, 7);
        d.readIs("data T = A x ; data T a b c d = A ;", -12, 28);
        d.readIs("data T = A x ; data T = ", -11, 24);
        d.readIs("data T = A x ; data Toolongname", -11, 20);
    }

    private static void readStartsAnew() {
        Due d = new Due();
        d.readIs("data T = A ; data U = B ;", 2, -3);
        Due.is("used up", d.x.cut(1), -2);
        d.readIs("data T = B ;", 1, -3);
        Due.is("told of what is gone", d.x.told(1, 0), -1);
        d.readIs("data T = ;", -11, 9);
        Due.is("used up by a fault", d.x.cut(1), -2);
        Due.is("nothing is declared", d.x.told(0, 0), -1);
        Due.is("no groups", d.x.groups(), 0);
        Due.is("no member", d.x.member(0, 0), -1);
        Due.is("no kind", d.x.kindOf(0, -1), -1);
        Due.is("no needs", d.x.needs(0, 0), -1);
        d.kindFails("T", -13, 0);
        d.readIs("data U = B ;", 1, -3);
        d.kindIs("U", "*");
        d.readIs("", 0, -3);
        d.kindFails("U", -13, 0);
    }

    private static String nested(String open, String inner, String close, int times) {
        return Due.times(open, times) + inner + Due.times(close, times);
    }
}
