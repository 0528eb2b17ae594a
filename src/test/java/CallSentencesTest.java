/** The promises 1 to 15, sentence by sentence. */
public final class CallSentencesTest {
    private static final int[] FAR = {Integer.MIN_VALUE, Integer.MIN_VALUE + 1, -1000000, -17, 16, 17, 255, 256, 1000000,
        Integer.MAX_VALUE};

    public static void main(String[] args) {
        newObject();
        feed();
        cut();
        read();
        place();
        placeBefore();
        side();
        sideLengths();
        out();
        told();
        toldOpen();
        kindOf();
        kindOfLengths();
        groups();
        member();
        needs();
        kind();
        plain();
        plainNodes();
        plainReplaced();
        same();
        sameFaults();
        sameNodes();
        sameNoRoom();
        lastCalls();
        Due.end();
    }

    private static void newObject() {
        Due.sentence("`KindRounds()`: An empty tape, nothing DECLARED.");
        Due d = new Due();
        Due.is("cut 1", d.x.cut(1), -2);
        Due.is("cut 0", d.x.cut(0), 0);
        Due.is("told", d.x.told(0, 0), -1);
        Due.is("kindOf", d.x.kindOf(0, -1), -1);
        Due.is("groups", d.x.groups(), 0);
        Due.is("member", d.x.member(0, 0), -1);
        Due.is("needs", d.x.needs(0, 0), -1);
        Due.is("place", d.x.place(), -3);
        Due.is("side", d.x.side(0), -3);
        Due.is("out", d.x.out(0), -1);
        Due.is("feed", d.x.feed(0, 0, 0, 0, 0), 20);
        Due.is("read", new Due().x.read(), 0);
        Due.is("kind", new Due().x.kind(), -11);
        Due.is("plain", new Due().x.plain(), -11);
        Due.is("same", new Due().x.same(), -11);
    }

    private static void feed() {
        Due.sentence("Twenty bytes more of the tape, the highest of each number first: how many it has. -4 (nothing changes).");
        for (int at = 0; at < 20; at++) {
            int[] five = new int[5];
            for (int i = 0; i < 20; i++) {
                five[i / 4] = five[i / 4] << 8 | (i == at ? 0xff : ' ');
            }
            Due d = new Due();
            Due.is("feed", d.x.feed(five[0], five[1], five[2], five[3], five[4]), 20);
            Due.is("read", d.x.read(), -11);
            Due.is("place of byte " + at, d.x.place(), at);
        }
        Due d = new Due();
        for (int i = 1; i <= 60; i++) {
            Due.is("feed", d.x.feed(0x20202020, 0x0a202020, 0x20202020, 0x20202020, 0x2020200a), 20 * i);
        }
        Due.is("full", d.x.feed(-1, -1, -1, -1, -1), -4);
        Due.is("full again", d.x.feed(-1, -1, -1, -1, -1), -4);
        Due.is("one less", d.x.cut(1199), 1);
        Due.is("room for one", d.x.feed(-1, -1, -1, -1, -1), -4);
        Due.is("19 less", d.x.cut(1181), 18);
        Due.is("room for 19", d.x.feed(-1, -1, -1, -1, -1), -4);
        Due.is("nothing changed", d.x.cut(1181), 0);
        Due.is("20 less", d.x.cut(1180), 1);
        Due.is("room for 20", d.x.feed(0x20202020, 0x20202020, 0x20202020, 0x20202020, 0x20202020), 1200);
        Due.is("blanks alone", d.x.read(), 0);
    }

    private static void cut() {
        Due.sentence("The tape keeps its first n bytes: how many went. -2 n is below 0, or it has not so many.");
        Due d = new Due();
        d.put("Int->Int ? Int->Int ");
        Due.is("below 0", d.x.cut(-1), -2);
        Due.is("one more", d.x.cut(21), -2);
        for (int n : FAR) {
            if (n < 0 || n > 20) {
                Due.is("cut " + n, d.x.cut(n), -2);
            }
        }
        Due.is("all stay", d.x.cut(20), 0);
        Due.is("one goes", d.x.cut(19), 1);
        Due.is("it is gone", d.x.cut(20), -2);
        Due.is("more go", d.x.cut(8), 11);
        Due.is("the first stay", d.x.plain(), 8);
        Due.is("shown", d.shown(), "Int->Int");
        d.put("Int");
        Due.is("all go", d.x.cut(0), 3);
        Due.is("of none", d.x.cut(0), 0);
        d.putOnThis("data T=A;");
        d.x.cut(7);
        d.x.feed(0x42203b20, 0x20202020, 0x20202020, 0x20202020, 0x20202020);
        Due.is("a feed goes on behind what stays", d.x.read(), 1);
    }

    private static void read() {
        Due.sentence("The tape is a text, in place of the one before: how many are DECLARED; -10 less the FAULT "
            + "(then nothing is).");
        Due d = new Due();
        String[] faulty = {"data T=", "data T a b c d=A;", "data T=A;data T=B;", "data T=A;type U=U;",
            "data T=A;type U a=a;type V=U;", "data T=A;type U=Int Int;"};
        for (int i = 0; i < faulty.length; i++) {
            Due.is("two", d.read("data T=A;type U=T;"), 2);
            Due.is("told", d.x.told(1, 0), 1);
            Due.is("fault", d.read(faulty[i]), -11 - i);
            Due.is("nothing told", d.x.told(0, 0), -1);
            Due.is("no kind", d.x.kindOf(0, -1), -1);
            Due.is("no groups", d.x.groups(), 0);
            Due.is("no member", d.x.member(0, 0), -1);
            Due.is("no needs", d.x.needs(0, 0), -1);
            Due.is("no T", d.kind("T"), -13);
            Due.is("its place", d.x.place(), 0);
            Due.is("types of no text", d.kind("f x->g(f y)->[Int]"), 1);
            Due.is("types of no text", d.kind("[f x y]->[g x z y]->f x Int"), 1);
        }
        Due.is("two", d.read("data T=A T;type U=T;"), 2);
        Due.is("one in their place", d.read("class C a{};"), 1);
        Due.is("its sort", d.x.told(0, 0), 2);
        Due.is("no second", d.x.told(1, 0), -1);
        Due.is("no needs of before", d.x.needs(0, 0), 0);
        Due.is("none in its place", d.read(""), 0);
        Due.is("no first", d.x.told(0, 0), -1);
    }

    private static void place() {
        Due.sentence("The place of the FAULT of the latest read(), kind(), plain(), same(); -3 if it had none (also of -4)");
        Due d = new Due();
        d.readIs("data T=A ?", -11, 9);
        Due.is("again", d.x.place(), 9);
        d.readIs("type D a=a->a;type U=Int;", 2, -3);
        d.kindFails("U X", -13, 2);
        d.kindIs("U", "*");
        d.plainFails("U U", -16, 2);
        d.plainIs("U", "Int");
        d.sameIs("U,D", -15, 2);
        d.sameIs("U,Int", 1, -3);
        d.sameIs("U,x", 0, -3);
        String much = "D(" + Due.times("x->", 50) + "x)";
        d.plainFails("?", -11, 0);
        d.plainFails(much, -4, -3);
        d.sameIs("?", -11, 0);
        d.sameIs(much + ",x", -4, -3);
        d.kindFails("Int Int", -16, 4);
        d.x.told(0, 0);
        d.x.cut(5);
        d.x.feed(0, 0, 0, 0, 0);
        d.x.kindOf(0, -1);
        Due.is("other calls leave it", d.x.place(), 4);
        Due e = new Due();
        e.read(Due.longText(330, ""));
        e.kindFails("?", -11, 0);
        e.kindFails("V", -4, -3);
        e.fault(1, Due.times(" ", 1199) + "^?");
        e.fault(1, Due.times(" ", 1196) + "data^");
    }

    private static void placeBefore() {
        Due.sentence("-3 if it had none (also of -4), and before.");
        Due d = new Due();
        Due.is("before", d.x.place(), -3);
        d.put("data T=?");
        Due.is("still before", d.x.place(), -3);
    }

    private static void side() {
        Due.sentence("A side (0 left, 1 right) of that FAULT, if it was 6, is SHOWN: how many bytes. -2, -3 it was not");
        Due d = new Due();
        Due.is("before", d.x.side(0), -3);
        Due.is("before", d.x.side(1), -3);
        Due.is("no side", d.x.side(2), -2);
        Due.is("no side", d.x.side(-1), -2);
        d.clash("data L a=A a;type T=L ^L;", "*->*", "(*->*)->a");
        Due.is("no side", d.x.side(2), -2);
        Due.is("no side", d.x.side(-1), -2);
        for (int side : FAR) {
            Due.is("side " + side, d.x.side(side), -2);
        }
        Due.is("left shown", d.x.side(0), 4);
        Due.is("left shown", d.shown(), "*->*");
        String[] others = {"data T=A;", "data T=", "data T a b c d=A;", "data T=A x;", "type T=T;", "type T a=a;type U=T;"};
        for (String other : others) {
            d.read(other);
            Due.is("left of " + other, d.x.side(0), -3);
            Due.is("right of " + other, d.x.side(1), -3);
            Due.is("no side of " + other, d.x.side(2), -2);
        }
        d.read("data L a=A a;");
        d.typeClash("L Int ^L", "*", "(*->*)->a");
        d.kindIs("L", "*->*");
        Due.is("of no fault", d.x.side(0), -3);
        d.sameFault(6, "x,L Int ^x");
        d.sidesAre("same", "*", "a->b");
        d.sameIs("x,x", 1, -3);
        Due.is("of no fault", d.x.side(1), -3);
    }

    private static void sideLengths() {
        Due.sentence("-2, -3 it was not, -4 more than 2000.");
        Due d = new Due();
        d.read(Due.longText(329, ""));
        d.kindFails("T T", -16, 2);
        Due.is("left of 2000", d.x.side(0), 2000);
        Due.is("its last", d.x.out(1999), '*');
        Due.is("right of 2005", d.x.side(1), -4);
        Due.is("left is still shown", d.x.out(1999), '*');
        d.read(Due.longText(327, " Int"));
        d.kindFails("V V", -16, 2);
        Due.is("left of 2001", d.x.side(0), -4);
        Due.is("right of 2006", d.x.side(1), -4);
        Due.is("no side", d.x.side(2), -2);
        d.read(Due.longText(326, " Int"));
        d.kindFails("Int V", -16, 4);
        Due.is("right of 2000", d.x.side(1), 2000);
        Due.is("its last", d.x.out(1999), 'a');
        Due.is("left of 1", d.x.side(0), 1);
        d.read(Due.longText(325, ""));
        d.kindFails("Int W", -16, 4);
        Due.is("right of 2001", d.x.side(1), -4);
        Due.is("left of 1", d.x.side(0), 1);
    }

    private static void out() {
        Due.sentence("Byte i of what was SHOWN last (by a call that did not refuse it). -1.");
        Due d = new Due();
        Due.is("nothing", d.x.out(0), -1);
        d.read("data L a=A a;type D a=a->a;");
        Due.is("nothing by read", d.x.out(0), -1);
        d.kindIs("L", "*->*");
        Due.is("below", d.x.out(-1), -1);
        Due.is("last", d.x.out(3), '*');
        Due.is("behind", d.x.out(4), -1);
        for (int i : FAR) {
            Due.is("out " + i, d.x.out(i), -1);
        }
        d.kind("L L");
        Due.is("kind refused", d.shown(), "*->*");
        d.plain("D");
        Due.is("plain refused", d.shown(), "*->*");
        d.plain("D(" + Due.times("x->", 50) + "x)");
        Due.is("plain had no room", d.shown(), "*->*");
        d.same("L x,D x");
        Due.is("same shows nothing", d.shown(), "*->*");
        d.plainIs("D x", "x->x");
        d.x.kindOf(2, -1);
        d.x.kindOf(0, 1);
        Due.is("kindOf refused", d.shown(), "x->x");
        d.x.side(0);
        Due.is("side refused", d.shown(), "x->x");
        d.declaredKindIs(0, 0, "*");
        Due.is("what was longer is gone", d.x.out(1), -1);
        d.put("data");
        Due.is("a fault of read", d.x.read(), -11);
        Due.is("read shows nothing", d.shown(), "*");
        d.kindFails("Int Int", -16, 4);
        Due.is("the sides are not shown yet", d.shown(), "*");
        Due.is("right", d.x.side(1), 4);
        Due.is("right is shown", d.shown(), "*->a");
    }

    private static void told() {
        Due.sentence("Of DECLARED i: what = 0 its sort (0 data, 1 type, 2 class), 1 PARAMETERS, 2 its GROUP, 3 the place of its "
            + "BIG, 4 cons (data), methods (class), 0 (type), 5 how many of its PARAMETERS had something OPEN. -1, -2.");
        Due d = new Due();
        String text = "\n class  Cc a{m::Dd a;n::a;}; type Tt a b=Dd a;data Dd a=A|B a|C[a];kind Dd::*->*;"
            + "data Ee=D|E|F|G|H|I;class Ff a{p::a;q::a;r::a;s::a;};type Gg a b c=Int;";
        d.good(6, text);
        int[][] due = {{2, 1, 1, 0, 2, 0}, {1, 2, 2, 0, 0, 1}, {0, 1, 0, 0, 3, 0}, {0, 0, 3, 0, 6, 0}, {2, 1, 4, 0, 4, 0},
            {1, 3, 5, 0, 0, 3}};
        String[] names = {"Cc", "Tt", "Dd a=", "Ee", "Ff", "Gg"};
        for (int i = 0; i < due.length; i++) {
            due[i][3] = text.indexOf(names[i]);
            for (int what = 0; what < 6; what++) {
                Due.is("told " + i + " " + what, d.x.told(i, what), due[i][what]);
            }
            Due.is("what below", d.x.told(i, -1), -2);
            Due.is("what behind", d.x.told(i, 6), -2);
        }
        Due.is("below", d.x.told(-1, 0), -1);
        Due.is("behind", d.x.told(6, 0), -1);
        for (int far : FAR) {
            Due.is("told " + far, d.x.told(far, 0), -1);
            Due.is("told what " + far, d.x.told(0, far), -2);
        }
        d.good(16, sixteen());
        Due.is("the last of sixteen", d.x.told(15, 1), 3);
        Due.is("behind it", d.x.told(16, 1), -1);
    }

    private static String sixteen() {
        StringBuilder all = new StringBuilder();
        for (char c = 'A'; c <= 'P'; c++) {
            all.append("data ").append(c).append(" a b c=K").append(c).append(";");
        }
        return all.toString();
    }

    private static void toldOpen() {
        Due.sentence("5 how many of its PARAMETERS had something OPEN.");
        Due d = new Due();
        d.good(8, "data A a b c=Ka;data B a b c=Kb a;data C a b c=Kc a b c;data D f x=Kd(f x);data E f x=Ke(f x)(f Int);"
            + "class F a{m::a(b c);};class G a{n::a Int;};type H f=f;");
        int[] due = {3, 2, 0, 2, 0, 1, 0, 1};
        for (int i = 0; i < due.length; i++) {
            Due.is("open of " + i, d.x.told(i, 5), due[i]);
        }
        d.good(2, "kind A::*->*;data A a=K;data B f=M(f A);");
        Due.is("told, so not open", d.x.told(0, 5), 0);
        Due.is("found, so not open", d.x.told(1, 5), 0);
        d.good(2, "data A a=K(B a);data B a=M(A a)(A Int);");
        Due.is("found in its group", d.x.told(0, 5), 0);
        d.good(2, "data A a=K;data B a=M(A a);");
        Due.is("open in its own group", d.x.told(0, 5), 1);
        Due.is("a star behind it", d.x.told(1, 5), 0);
    }

    private static void kindOf() {
        Due.sentence("The KIND of DECLARED i (j = -1), of its PARAMETER j (from 0), is SHOWN: how many bytes. -1 (either)");
        Due d = new Due();
        d.good(3, "data T a b c=A(a b)(c a);type S=T;class C f{m::f Int;};");
        d.declaredKindIs(0, -1, "(*->*)->*->((*->*)->*)->*");
        d.declaredKindIs(0, 0, "*->*");
        d.declaredKindIs(0, 1, "*");
        d.declaredKindIs(0, 2, "(*->*)->*");
        Due.is("parameter behind", d.x.kindOf(0, 3), -1);
        Due.is("parameter below", d.x.kindOf(0, -2), -1);
        d.declaredKindIs(1, -1, "(*->*)->*->((*->*)->*)->*");
        Due.is("none has no parameter", d.x.kindOf(1, 0), -1);
        d.declaredKindIs(2, -1, "*->*");
        d.declaredKindIs(2, 0, "*->*");
        Due.is("one has no second", d.x.kindOf(2, 1), -1);
        Due.is("behind", d.x.kindOf(3, -1), -1);
        Due.is("below", d.x.kindOf(-1, -1), -1);
        for (int far : FAR) {
            Due.is("kindOf " + far, d.x.kindOf(far, -1), -1);
            Due.is("kindOf parameter " + far, d.x.kindOf(0, far), -1);
            Due.is("kindOf either " + far, d.x.kindOf(far, far), -1);
        }
        Due.is("the last shown stays", d.shown(), "*->*");
    }

    private static void kindOfLengths() {
        Due.sentence("-1 (either), -4 more than 2000.");
        Due d = new Due();
        d.read(Due.longText(329, ""));
        Due.is("2000 of T", d.x.kindOf(1, -1), 2000);
        Due.is("its last", d.x.out(1999), '*');
        Due.is("2010 of V", d.x.kindOf(2, -1), -4);
        Due.is("T is still shown", d.x.out(1999), '*');
        d.read(Due.longText(327, " Int"));
        Due.is("2001 of V", d.x.kindOf(2, -1), -4);
        d.read(Due.longText(326, " Int"));
        Due.is("2000 of W's", d.x.kindOf(3, 0), 2000);
        Due.is("2005 of W", d.x.kindOf(3, -1), -4);
        d.read(Due.longText(330, ""));
        Due.is("2001 of T's", d.x.kindOf(1, 0), -4);
        Due.is("no room is not no such", d.x.kindOf(1, 1), -1);
    }

    private static void groups() {
        Due.sentence("How many GROUPS there are.");
        Due d = new Due();
        Due.is("of nothing", d.x.groups(), 0);
        String[] texts = {"", "data A=K;", "data A=K A;", "data A=K B;data B=M A;", "data A=K B;data B=M;", sixteen()};
        int[] due = {0, 1, 1, 1, 2, 16};
        for (int i = 0; i < due.length; i++) {
            d.read(texts[i]);
            Due.is("groups of " + texts[i], d.x.groups(), due[i]);
        }
        d.read("data A=?");
        Due.is("of a fault", d.x.groups(), 0);
    }

    private static void member() {
        Due.sentence("The k-th of a GROUP, from 0, by numbers. -1 (either).");
        Due d = new Due();
        d.read("data A=K B;data C=M;data B=N D;data D=O A;");
        int[][] due = {{0, 2, 3}, {1}};
        d.groupsAre(due);
        Due.is("group behind", d.x.member(2, 0), -1);
        Due.is("group below", d.x.member(-1, 0), -1);
        Due.is("k behind", d.x.member(0, 3), -1);
        Due.is("k behind", d.x.member(1, 1), -1);
        Due.is("k below", d.x.member(0, -1), -1);
        for (int far : FAR) {
            Due.is("member of " + far, d.x.member(far, 0), -1);
            Due.is("member " + far, d.x.member(0, far), -1);
        }
    }

    private static void needs() {
        Due.sentence("Whether DECLARED i NEEDS j: 1, 0. -1 (either).");
        Due d = new Due();
        d.read("data A=K B;data B=M C;data C=N;");
        String[] due = {"011", "001", "000"};
        for (int i = 0; i < 3; i++) {
            for (int j = 0; j < 3; j++) {
                Due.is("needs " + i + " " + j, d.x.needs(i, j), due[i].charAt(j) - '0');
            }
            Due.is("j behind", d.x.needs(i, 3), -1);
            Due.is("j below", d.x.needs(i, -1), -1);
            Due.is("i behind", d.x.needs(3, i), -1);
            Due.is("i below", d.x.needs(-1, i), -1);
        }
        for (int far : FAR) {
            Due.is("needs of " + far, d.x.needs(far, 0), -1);
            Due.is("needs " + far, d.x.needs(0, far), -1);
        }
    }

    private static void kind() {
        Due.sentence("The tape is a type: its KIND is SHOWN (what is OPEN is *): how many bytes; -10 less a FAULT; "
            + "-4 more than 2000.");
        Due d = new Due();
        d.read("data P f a=A(f a);type S a=a;");
        d.kindIs("P", "(*->*)->*->*");
        d.kindIs("P f", "*->*");
        d.kindIs("f x", "*");
        d.kindIs("f", "*");
        d.kindIs("S x", "*");
        int[] due = {-11, -12, -13, -15, -16};
        String[] types = {"P ?", "(((((((((f", "P X", "P S", "P Int"};
        for (int i = 0; i < due.length; i++) {
            Due.is("kind " + types[i], d.kind(types[i]), due[i]);
        }
        d.read(Due.longText(329, ""));
        Due.is("2000", d.kind("T"), 2000);
        Due.is("its last", d.x.out(1999), '*');
        Due.is("2010", d.kind("V"), -4);
        Due.is("still shown", d.x.out(1999), '*');
        d.read(Due.longText(327, " Int"));
        Due.is("2001", d.kind("V"), -4);
    }

    private static void plain() {
        Due.sentence("The tape is a type: WITHOUT SYNONYMS it is SHOWN: how many bytes; -10 less a FAULT");
        Due d = new Due();
        d.read("data P f a=A(f a);type S a=[a];");
        d.plainIs("S(S x)", "[[x]]");
        d.plainIs("P", "P");
        d.plainIs("x", "x");
        int[] due = {-11, -12, -13, -15, -16};
        String[] types = {"P ?", "(((((((((f", "P X", "P S", "P Int"};
        for (int i = 0; i < due.length; i++) {
            Due.is("plain " + types[i], d.plain(types[i]), due[i]);
        }
        d.read("data Abcdefgh a=A;type T a=Abcdefgh(Abcdefgh(Abcdefgh(Abcdefgh(Abcdefgh(Abcdefgh a)))));"
            + "type U a=T(T(T(T(T(T a)))));type V a=U(U(U(U(U a))));");
        Due.is("as long as can be", d.plain("V(T(T(T(Abcdefgh xxxxxxxx))))"), 200 * 8 + 199 + 2 * 198);
        Due.is("its last", d.x.out(2194), ')');
        Due.is("behind it", d.x.out(2195), -1);
    }

    private static void plainNodes() {
        Due.sentence("-4 it comes to more than 200 NODES on the way");
        Due d = new Due();
        d.read("type D a=a->a;type G a b c=Int;type M a=G a a a;type N a=Int;");
        String half = Due.times("x->", 49) + "x";
        d.plainIs("[D(" + half + ")]", "[(" + half + ")->" + half + "]");
        d.plainFails("[[D(" + half + ")]]", -4, -3);
        d.plainIs("M[" + Due.times("x->", 32) + "x]", "Int");
        d.plainFails("M(" + Due.times("x->", 33) + "x)", -4, -3);
        d.plainIs("N(D(" + half + "->x))", "Int");
        d.plainIs("N(" + Due.times("x->", 99) + "x)", "Int");
        d.plainIs(Due.times("x->", 99) + "[x]", Due.times("x->", 99) + "[x]");
    }

    private static void plainReplaced() {
        Due.sentence("or more than 300 BIG would have to be replaced.");
        Due d = new Due();
        d.read("type I a=a;type J a=I(I(I(I a)));type E=Int;type H a=J(J a);");
        String sixty = Due.times("J x->", 59) + "J x";
        d.plainIs(sixty, Due.times("x->", 59) + "x");
        d.plainFails(sixty + "->E", -4, -3);
        d.plainFails("E->" + sixty, -4, -3);
        d.plainFails("I(" + sixty + ")", -4, -3);
        d.plainIs(sixty + "->Int", Due.times("x->", 60) + "Int");
        d.plainIs(Due.times("H x->", 27) + "I(I(I x))", Due.times("x->", 27) + "x");
        d.plainFails(Due.times("H x->", 27) + "I(I(I(I x)))", -4, -3);
    }

    private static void same() {
        Due.sentence("whether they would be SHOWN alike WITHOUT SYNONYMS: 1, 0 (nothing is SHOWN)");
        Due d = new Due();
        d.read("data L a=A a;type S a=L a;type W a b=b->a;type R=L;");
        String[] alike = {"x,x", "S x,L x", "S x,S x", "W x y,y->x", "R,L", "R x,S x", "(f x)y,f x y", "x->(y->z),x->y->z",
            "W x(W y z),(z->y)->x", "[S x],[L x]"};
        for (String types : alike) {
            d.sameIs(types, 1, -3);
        }
        String[] others = {"x,y", "x,xx", "L x,L y", "W x y,W y x", "f x y,f(x y)", "(x->y)->z,x->y->z", "[x],x", "f,f x",
            "[x]->y,[x->y]", "L x,f x", "Int,L Int", "f [x],f x"};
        for (String types : others) {
            d.sameIs(types, 0, -3);
        }
        Due.is("nothing is shown", new Due().x.out(0), -1);
        d.kindIs("L", "*->*");
        d.sameIs("S x,L x", 1, -3);
        Due.is("what was shown stays", d.shown(), "*->*");
        d.sameIs("S x,x", 0, -3);
        Due.is("what was shown stays", d.shown(), "*->*");
    }

    private static void sameFaults() {
        Due.sentence("-10 less a FAULT (as of one text: 3, 5, 6 each of the first, then of the second; each has KINDS of its own "
            + "for its SMALL");
        Due d = new Due();
        d.read("data L a=A a;type S a=L a;");
        d.sameFault(1, "X,^)");
        d.sameFault(1, "S,L L^?");
        d.sameFault(2, "X," + Due.times("(", 8) + "^(x");
        d.sameFault(3, "^X,Y");
        d.sameFault(3, "S,^X");
        d.sameFault(3, "L L,^X");
        d.sameFault(5, "^S,S");
        d.sameFault(5, "L L,^S");
        d.sameFault(5, "x,L ^S");
        d.sameFault(6, "L ^L,Int Int");
        d.sidesAre("first", "*->*", "(*->*)->a");
        d.sameFault(6, "L,Int ^Int");
        d.sidesAre("second", "*", "*->a");
        d.sameIs("f x,f x y", 0, -3);
        d.sameIs("f Int->Int,[f]", 0, -3);
        d.sameFault(6, "f Int->^f,f");
        d.sameFault(6, "f,f Int->^f");
    }

    private static void sameNodes() {
        Due.sentence("NODES of FAULT 2 are counted together)");
        Due d = new Due();
        String half = Due.times("a->", 49) + "[a]";
        d.sameIs(half + "," + half, 1, -3);
        d.sameFault(2, half + "," + half + "^->a");
        d.sameFault(2, half + "," + half + " ^a");
        d.sameFault(2, half + "->a," + Due.times("a->", 49) + "^[a]");
        d.sameFault(2, Due.times("a->", 99) + "[a],^a");
        d.sameFault(2, Due.times("a->", 99) + "[a]^->a,a");
    }

    private static void sameNoRoom() {
        Due.sentence("-4 as for plain() (either).");
        Due d = new Due();
        d.read("type D a=a->a;type I a=a;type J a=I(I(I(I a)));data L a=A a;");
        String half = Due.times("x->", 49) + "x";
        String full = "[D(" + half + ")]";
        d.sameIs(full + ",x", 0, -3);
        d.sameIs(full + ",D(D(D(D(D x))))", 0, -3);
        d.sameIs("x,[" + full + "]", -4, -3);
        d.sameIs("[" + full + "],x", -4, -3);
        d.sameIs("[" + full + "],L ", -4, -3);
        String many = Due.times("J x->", 29) + "J x";
        d.sameIs(many + "," + many, 1, -3);
        String all = Due.times("J(J x)->", 29) + "J(J x)";
        d.sameIs(all + ",x", 0, -3);
        d.sameIs(all + "->I x,x", -4, -3);
        d.sameIs("x," + all, 0, -3);
        d.sameIs("x," + all + "->I x", -4, -3);
        d.sameFault(6, "[" + full + "],L ^L");
    }

    private static void lastCalls() {
        Due.sentence("An object is used for at most 512 calls after it has been made");
        Due d = new Due();
        d.putOnThis("data L a=A a;");
        Due.is("read", d.x.read(), 1);
        for (int i = 0; d.x.calls() < 500; i++) {
            Due.is("kindOf in call " + d.x.calls(), d.x.kindOf(0, -1 + i % 2), i % 2 == 0 ? 4 : 1);
        }
        d.putOnThis("L L");
        Due.is("kind", d.x.kind(), -16);
        Due.is("place", d.x.place(), 2);
        Due.is("left", d.x.side(0), 4);
        for (int i = 0; d.x.calls() < 512; i++) {
            Due.is("left shown", d.x.out(i), i < 4 ? "*->*".charAt(i) : -1);
        }
    }
}
