/** Promises 8 to 12: told, kindOf, groups, member and needs. */
public final class DeclaredTest {
    private static final String MIXED = "class K m { u :: a -> m a ; v :: F m a -> S a ; } ; type S a = F L a ; "
        + "data L a = N | C a (L a) ; data F f a = G (f a) ; data E = H (O E) ; data O x = I E ;";

    public static void main(String[] args) {
        tellingSorts();
        tellingOpen();
        kinds();
        longKinds();
        groupsByNeed();
        groupsByLeast();
        members();
        needing();
        Due.end();
    }

    private static void tellingSorts() {
        Due d = new Due();
        Due.is("read", d.read(MIXED), 6);
        int[][] due = {{2, 1, 3, 6, 2, 0}, {1, 1, 2, 57, 0, 0}, {0, 1, 0, 76, 2, 0}, {0, 2, 1, 103, 1, 2},
            {0, 0, 4, 126, 1, 0}, {0, 1, 4, 145, 1, 0}};
        for (int i = 0; i < 6; i++) {
            for (int what = 0; what < 6; what++) {
                Due.is("told " + i + " " + what, d.x.told(i, what), due[i][what]);
            }
        }
        Due.is("no such what", d.x.told(0, 6), -2);
        Due.is("no such what", d.x.told(5, -1), -2);
        Due.is("no such what", d.x.told(5, Integer.MAX_VALUE), -2);
        Due.is("no such declared", d.x.told(6, 0), -1);
        Due.is("no such declared", d.x.told(-1, 0), -1);
        Due.is("neither", d.x.told(-1, -1), -1);
        Due.is("neither", d.x.told(Integer.MIN_VALUE, 6), -1);
        d.read("type A a = a ; class B a { } ; data C = K ;");
        for (int i = 0; i < 3; i++) {
            Due.is("parts of the new text " + i, d.x.told(i, 4), i / 2);
        }
    }

    private static void tellingOpen() {
        Due d = new Due();
        d.read("data A a b c = K b ; data B f g = L (f g) (g Int) ; data C a = M (D a) ; data D a = N (C a) ;"
            + "class E a { } ; class F a { m :: a b ; } ; class G a { n :: a Int ; } ; type H a b = a ;"
            + "data I a = O (H a a) ;");
        int[] due = {2, 0, 1, 1, 1, 1, 0, 2, 0};
        for (int i = 0; i < due.length; i++) {
            Due.is("open of " + i, d.x.told(i, 5), due[i]);
        }
        d.declaredKindIs(5, 0, "*->*");
        d.declaredKindIs(7, -1, "*->*->*");
        d.read("kind A :: * -> * -> * ; data A a b = K ; data B a b = L ; kind B :: (* -> *) -> * -> * ;");
        Due.is("nothing open", d.x.told(0, 5), 0);
        Due.is("nothing open", d.x.told(1, 5), 0);
    }

    private static void kinds() {
        Due d = new Due();
        d.read(MIXED);
        d.declaredKindIs(0, -1, "*->*");
        d.declaredKindIs(0, 0, "*->*");
        d.declaredKindIs(1, -1, "*->*");
        d.declaredKindIs(1, 0, "*");
        d.declaredKindIs(2, -1, "*->*");
        d.declaredKindIs(3, -1, "(*->*)->*->*");
        d.declaredKindIs(3, 0, "*->*");
        d.declaredKindIs(3, 1, "*");
        d.declaredKindIs(4, -1, "*");
        d.declaredKindIs(5, -1, "*->*");
        Due.is("no such parameter", d.x.kindOf(3, 2), -1);
        Due.is("no such parameter", d.x.kindOf(3, -2), -1);
        Due.is("no such parameter", d.x.kindOf(4, 0), -1);
        Due.is("no such parameter", d.x.kindOf(0, Integer.MAX_VALUE), -1);
        Due.is("no such parameter", d.x.kindOf(0, Integer.MIN_VALUE), -1);
        Due.is("no such declared", d.x.kindOf(6, -1), -1);
        Due.is("no such declared", d.x.kindOf(-1, -1), -1);
        Due.is("no such declared", d.x.kindOf(Integer.MIN_VALUE, 0), -1);
        d = new Due();
        d.read("type A f = f Int Int ; data B a b = K ; type C = B ; type D x = A B ; data E t = L (t D2 C) ;"
            + "type D2 = [Int] ; data F a b c = M (a b c) (b c) [c] ; kind F :: ((*->*)->(*->*)) -> (* -> *) -> (*->*);");
        d.declaredKindIs(0, -1, "(*->*->*)->*");
        d.declaredKindIs(2, -1, "*->*->*");
        d.declaredKindIs(3, -1, "*->*");
        d.declaredKindIs(4, 0, "*->(*->*->*)->*");
        d.declaredKindIs(4, -1, "(*->(*->*->*)->*)->*");
        d.declaredKindIs(6, -1, "((*->*)->*->*)->(*->*)->*->*");
        d.declaredKindIs(6, 0, "(*->*)->*->*");
        d.declaredKindIs(6, 1, "*->*");
        d.declaredKindIs(6, 2, "*");
    }

    private static void longKinds() {
        Due d = new Due();
        d.read(Due.longText(329, ""));
        Due.is("2000 bytes", d.x.kindOf(1, -1), 2000);
        Due.is("its first", d.x.out(0), '(');
        Due.is("its last", d.x.out(1999), '*');
        Due.is("1995 bytes", d.x.kindOf(1, 0), 1995);
        Due.is("2010 bytes", d.x.kindOf(2, -1), -4);
        Due.is("a refusal shows nothing", d.x.out(1994), '*');
        Due.is("a refusal shows nothing", d.x.out(1995), -1);
        d.read(Due.longText(329, " Int Int"));
        Due.is("2001 bytes", d.x.kindOf(1, 0), -4);
        Due.is("the parameter of P", d.x.kindOf(0, 0), 988);
        d.read("class C k{m::[p x y]->[q p p]->[r q q]->[s r r]->[t s s]->[u t t]->[v u u]->[w v v]->[z w w]->"
            + "[a z z]->[b a a]->[c b b]->[d c c]->[e d d]->[f e e]->[g f f]->[h g g]->[i h h]->[j i i]->[k j j];};");
        Due.is("a million bytes and more", d.x.kindOf(0, -1), -4);
        Due.is("open in it", d.x.told(0, 5), 1);
    }

    private static void groupsByNeed() {
        Due d = new Due();
        d.read(MIXED);
        Due.is("groups", d.x.groups(), 5);
        int[][] due = {{2}, {3}, {1}, {0}, {4, 5}};
        d.groupsAre(due);
        d.read("data A = K B ; data B = L C ; data C = M A D ; data D = N D ;");
        d.groupsAre(new int[][] {{3}, {0, 1, 2}});
        d.read("data D = N ; data A = K B ; data B = L C ; data C = M A D ;");
        d.groupsAre(new int[][] {{0}, {1, 2, 3}});
        d.read("");
        Due.is("none", d.x.groups(), 0);
    }

    private static void groupsByLeast() {
        Due d = new Due();
        d.read("data A = K C ; data B = L ; data C = M ; data D = N ;");
        d.groupsAre(new int[][] {{1}, {2}, {0}, {3}});
        d.read("data A = K D ; data B = L C ; data C = M B ; data D = N E ; data E = O ;");
        d.groupsAre(new int[][] {{1, 2}, {4}, {3}, {0}});
        d.read("data A = K ; data B = L A D ; data C = M ; data D = N B ; data E = O ;");
        d.groupsAre(new int[][] {{0}, {1, 3}, {2}, {4}});
        d.read("class Z a { m :: T a ; } ; class Y a { } ; data T a = K ; type S = T Int ;");
        d.groupsAre(new int[][] {{1}, {2}, {0}, {3}});
    }

    private static void members() {
        Due d = new Due();
        d.read("data A = K B ; data B = L A ;");
        Due.is("least", d.x.member(0, 0), 0);
        Due.is("next", d.x.member(0, 1), 1);
        Due.is("k behind", d.x.member(0, 2), -1);
        Due.is("k far behind", d.x.member(0, Integer.MAX_VALUE), -1);
        Due.is("k below", d.x.member(0, -1), -1);
        Due.is("group behind", d.x.member(1, 0), -1);
        Due.is("group below", d.x.member(-1, 0), -1);
        Due.is("group far below", d.x.member(Integer.MIN_VALUE, Integer.MIN_VALUE), -1);
    }

    private static void needing() {
        Due d = new Due();
        d.read(MIXED);
        String[] due = {"011100", "001100", "001000", "000000", "000011", "000011"};
        for (int i = 0; i < 6; i++) {
            for (int j = 0; j < 6; j++) {
                Due.is("needs " + i + " " + j, d.x.needs(i, j), due[i].charAt(j) - '0');
            }
        }
        Due.is("no such i", d.x.needs(6, 0), -1);
        Due.is("no such i", d.x.needs(-1, 0), -1);
        Due.is("no such j", d.x.needs(0, 6), -1);
        Due.is("no such j", d.x.needs(0, -1), -1);
        Due.is("neither", d.x.needs(Integer.MAX_VALUE, Integer.MIN_VALUE), -1);
    }
}
