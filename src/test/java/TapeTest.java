/** Promises 1, 2 and 3: a new object, feed and cut. */
public final class TapeTest {
    public static void main(String[] args) {
        newObject();
        feeding();
        cutting();
        bytesInOrder();
        Due.end();
    }

    private static void newObject() {
        KindRounds x = new KindRounds();
        Due.is("new: place", x.place(), -3);
        Due.is("new: side", x.side(0), -3);
        Due.is("new: out", x.out(0), -1);
        Due.is("new: told", x.told(0, 0), -1);
        Due.is("new: kindOf", x.kindOf(0, -1), -1);
        Due.is("new: groups", x.groups(), 0);
        Due.is("new: member", x.member(0, 0), -1);
        Due.is("new: needs", x.needs(0, 0), -1);
        Due.is("new: cut", x.cut(0), 0);
        Due.is("new: cut 1", x.cut(1), -2);
        Due.is("new: read", x.read(), 0);
        Due.is("new: kind", x.kind(), -11);
        Due.is("new: place of kind", x.place(), 0);
        Due.is("new: plain", new KindRounds().plain(), -11);
        Due.is("new: same", new KindRounds().same(), -11);
    }

    private static void feeding() {
        KindRounds x = new KindRounds();
        for (int i = 1; i <= 60; i++) {
            Due.is("feed " + i, x.feed(0x20202020, 0x20202020, 0x20202020, 0x20202020, 0x20202020), 20 * i);
        }
        Due.is("feed 61", x.feed(0, 0, 0, 0, 0), -4);
        Due.is("all are blanks still", x.read(), 0);
        Due.is("used up", x.cut(1), -2);
        for (int i = 1; i <= 60; i++) {
            x.feed(-1, -1, -1, -1, -1);
        }
        Due.is("cut one", x.cut(1199), 1);
        Due.is("19 are no room", x.feed(0, 0, 0, 0, 0), -4);
        Due.is("cut to 1181", x.cut(1181), 18);
        Due.is("19 are no room", x.feed(0, 0, 0, 0, 0), -4);
        Due.is("cut to 1180", x.cut(1180), 1);
        Due.is("20 are room", x.feed(0, 0, 0, 0, 0), 1200);
    }

    private static void cutting() {
        KindRounds x = new KindRounds();
        x.feed(0x496e7420, 0x20202020, 0x20202020, 0x20202020, 0x21202020);
        Due.is("cut below 0", x.cut(-1), -2);
        Due.is("cut far below 0", x.cut(Integer.MIN_VALUE), -2);
        Due.is("cut behind", x.cut(21), -2);
        Due.is("cut far behind", x.cut(Integer.MAX_VALUE), -2);
        Due.is("cut nothing", x.cut(20), 0);
        Due.is("cut some", x.cut(16), 4);
        Due.is("what went is gone", x.cut(17), -2);
        Due.is("kind", x.kind(), 1);
        x.feed(0x496e7420, 0x20202020, 0x20202020, 0x20202020, 0x21202020);
        Due.is("cut all", x.cut(0), 20);
        Due.is("kind of nothing", x.kind(), -11);
        Due.is("place of nothing", x.place(), 0);
    }

    /** Each of the twenty bytes must stand at its place: a wrong one is found there. */
    private static void bytesInOrder() {
        for (int at = 0; at < 20; at++) {
            int[] five = new int[5];
            for (int i = 0; i < 20; i++) {
                five[i / 4] = five[i / 4] << 8 | (i == at ? 0xff : ' ');
            }
            KindRounds x = new KindRounds();
            x.feed(five[0], five[1], five[2], five[3], five[4]);
            Due.is("read with a bad byte", x.read(), -11);
            Due.is("its place", x.place(), at);
        }
        KindRounds x = new KindRounds();
        x.feed(0x41424344, 0x20202020, 0x20202020, 0x20202020, 0x20202020);
        x.kind();
        Due.is("a name across feeds: place", x.place(), 0);
    }
}
