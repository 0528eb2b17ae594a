/** Promise 4: read, with the faults 3, 4 and 5. */
public final class NamesTest {
    public static void main(String[] args) {
        toldTwice();
        toldForOthers();
        notTold();
        firstFromTheLeft();
        rings();
        lacks();
        whichComesFirst();
        Due.end();
    }

    private static void toldTwice() {
        Due d = new Due();
        d.readIs("data T = A ; data T = B ;", -13, 18);
        d.readIs("data T = A ; type T = Int ;", -13, 18);
        d.readIs("class T a { } ; data T = A ;", -13, 21);
        d.readIs("data Int = A ;", -13, 5);
        d.readIs("type Int = Int ;", -13, 5);
        d.readIs("class Int a { } ;", -13, 6);
        d.readIs("data T = A | A ;", -13, 13);
        d.readIs("data T = A ; data U = B | A ;", -13, 26);
        d.readIs("class C a { m :: a ; m :: a ; } ;", -13, 21);
        d.readIs("class C a { m :: a ; } ; class D a { m :: a ; } ;", -13, 37);
        d.readIs("data T a a = A ;", -13, 9);
        d.readIs("type T a b a = Int ;", -13, 11);
        d.readIs("kind T :: * ; data T = A ; kind T :: * ;", -13, 32);
        d.readIs("kind Int :: * ;", -13, 5);
    }

    /** Each sort is told among itself: the same name may be told for others. */
    private static void toldForOthers() {
        Due d = new Due();
        d.readIs("data T = T ; data A = Int ; data U = A T ;", 3, -3);
        d.readIs("class a a { } ;", -11, 6);
        d.readIs("class C m { m :: m ; n :: m ; } ;", 1, -3);
        d.readIs("data T a = A a ; data U a = B a ; type S a = a ; class C a { a :: a ; } ;", 4, -3);
        d.readIs("class C a { m :: b ; n :: b c ; o :: c ; } ;", 1, -3);
        d.readIs("kind T :: * ; kind U :: * ; data U = A ; data T = B ;", 2, -3);
        d.readIs("class C a { } ; kind C :: * -> * ;", 1, -3);
    }

    private static void notTold() {
        Due d = new Due();
        d.readIs("data T = A U ;", -13, 11);
        d.readIs("data T = A A ;", -13, 11);
        d.readIs("data T = A (Int -> [U]) ;", -13, 20);
        d.readIs("type S = U ;", -13, 9);
        d.readIs("class C a { m :: U a ; } ;", -13, 17);
        d.readIs("class C a { m :: C a ; } ;", -13, 17);
        d.readIs("data T = A (C Int) ; class C a { } ;", -13, 12);
        d.readIs("data T a = A b ;", -13, 13);
        d.readIs("data T = A a ;", -13, 11);
        d.readIs("type S a = b ;", -13, 11);
        d.readIs("data U b = B b ; type S a = b ;", -13, 28);
        d.readIs("kind T :: * ;", -13, 5);
        d.readIs("data T = A ; kind A :: * ;", -13, 18);
        d.readIs("data T = A U ; data U = B T ;", 2, -3);
    }

    private static void firstFromTheLeft() {
        Due d = new Due();
        d.readIs("data T a = A b ; data T = A c ;", -13, 13);
        d.readIs("data T a a = A b ;", -13, 9);
        d.readIs("type S = x -> y ;", -13, 9);
        d.readIs("type S = (Int -> U) V ;", -13, 17);
        d.readIs("kind Q :: * ; data T = A U ;", -13, 5);
        d.readIs("data T = A U ; kind Q :: * ;", -13, 11);
        d.readIs("data A = B X ; class X a { } ; data A = C ;", -13, 11);
    }

    private static void rings() {
        Due d = new Due();
        d.readIs("type A = A ;", -14, 5);
        d.readIs("type A = Int -> [(A)] ;", -14, 5);
        d.readIs("type A = B ; type B = C ; type C = A ;", -14, 5);
        d.readIs("type A = B ; type B = [C] ; type C = B ;", -14, 18);
        d.readIs("data T = K Z ; type Z = B ; type B = Int -> C ; type C = B ;", -14, 33);
        d.readIs("type A = T ; data T = K A ;", 2, -3);
        d.readIs("type A a = T a ; data T a = K (A a) ;", 2, -3);
        d.readIs("data T = K T ; data U = L V ; data V = M U ;", 3, -3);
        d.readIs("type A = B ; type B = C ; type C = Int ;", 3, -3);
        d.readIs("class C a { m :: A ; } ; type A = B ; type B = A ;", -14, 30);
    }

    private static void lacks() {
        Due d = new Due();
        String s = "type S a b = a ;";
        d.readIs(s + "type X = S Int Int ;", 2, -3);
        d.readIs(s + "type X = S Int ;", -15, s.length() + 9);
        d.readIs(s + "type X = S ;", -15, s.length() + 9);
        d.readIs(s + "type X = (S) Int Int ;", -15, s.length() + 10);
        d.readIs(s + "type X = (S Int) Int ;", -15, s.length() + 10);
        d.readIs(s + "type X = (S Int Int) ;", 2, -3);
        d.readIs(s + "type X = S Int -> Int ;", -15, s.length() + 9);
        d.readIs(s + "type X = [S Int] ;", -15, s.length() + 10);
        d.readIs(s + "type X a = a S Int Int ;", -15, s.length() + 13);
        d.readIs(s + "type X = S S Int Int ;", -15, s.length() + 11);
        d.readIs(s + "type X = S (S Int Int) (S Int) ;", -15, s.length() + 24);
        d.readIs(s + "data T = A S Int Int ;", -15, s.length() + 11);
        d.readIs(s + "data T = A (S Int Int) ;", 2, -3);
        d.readIs(s + "class C a { m :: a -> S a ; } ;", -15, s.length() + 22);
        d.readIs("type X = S Int ; type S a b = a ;", -15, 9);
        d.readIs("data T a = A ; type X = T ; type Y = X Int ; type Z f = f Int ; type W = Z X ;", 5, -3);
        d.readIs("type F a = T ; data T a = A ; type X = F Int Int ;", 3, -3);
    }

    private static void whichComesFirst() {
        Due d = new Due();
        d.readIs("type A a = A ; data T = B x ;", -13, 26);
        d.readIs("type S a = a ; type X = S ; type A = A ;", -14, 33);
        d.readIs("data T = K (Int Int) ; type S a = a ; type X = S ;", -15, 47);
        d.readIs("type A a = A ;", -14, 5);
    }
}
