/** Makes calls with texts in place of numbers, and counts the answers that are not the ones due. */
final class Due {
    private static int wrong = 0;
    private static int asked = 0;

    final KindRounds x = new KindRounds();

    /** Puts a text on the tape, and nothing behind it. */
    void put(String text) {
        x.cut(0);
        add(text);
    }

    /** Puts a text behind what is on the tape. */
    void add(String text) {
        int from = x.feed(0, 0, 0, 0, 0) - 20;
        x.cut(from);
        int[] five = new int[5];
        int length = from;
        for (int start = 0; start < text.length(); start += 20) {
            for (int i = 0; i < 20; i++) {
                int b = start + i < text.length() ? text.charAt(start + i) & 255 : ' ';
                five[i / 4] = five[i / 4] << 8 | b;
            }
            length = x.feed(five[0], five[1], five[2], five[3], five[4]);
        }
        x.cut(Math.min(length, from + text.length()));
    }

    int read(String text) {
        put(text);
        return x.read();
    }

    int kind(String type) {
        put(type);
        return x.kind();
    }

    int plain(String type) {
        put(type);
        return x.plain();
    }

    int same(String types) {
        put(types);
        return x.same();
    }

    /** All bytes that out() tells. */
    String shown() {
        StringBuilder all = new StringBuilder();
        for (int i = 0; x.out(i) >= 0; i++) {
            all.append((char) x.out(i));
        }
        return all.toString();
    }

    /** The text is read with this answer, and the fault has this place. */
    void readIs(String text, int answer, int place) {
        is("read " + text, read(text), answer);
        is("place of " + text, x.place(), place);
    }

    /** The text is read with fault 6 at this place, with these sides. */
    void clashIs(String text, int place, String left, String right) {
        readIs(text, -16, place);
        sidesAre(text, left, right);
    }

    void sidesAre(String text, String left, String right) {
        is("side 0 of " + text, x.side(0), left.length());
        is("left of " + text, shown(), left);
        is("side 1 of " + text, x.side(1), right.length());
        is("right of " + text, shown(), right);
    }

    void kindIs(String type, String kind) {
        is("kind " + type, kind(type), kind.length());
        is("kind shown of " + type, shown(), kind);
        is("place of kind " + type, x.place(), -3);
    }

    void kindFails(String type, int answer, int place) {
        is("kind " + type, kind(type), answer);
        is("place of kind " + type, x.place(), place);
    }

    void plainIs(String type, String plain) {
        is("plain " + type, plain(type), plain.length());
        is("plain shown of " + type, shown(), plain);
        is("place of plain " + type, x.place(), -3);
    }

    void plainFails(String type, int answer, int place) {
        is("plain " + type, plain(type), answer);
        is("place of plain " + type, x.place(), place);
    }

    void sameIs(String types, int answer, int place) {
        is("same " + types, same(types), answer);
        is("place of same " + types, x.place(), place);
    }

    void declaredKindIs(int i, int j, String kind) {
        is("kindOf " + i + " " + j, x.kindOf(i, j), kind.length());
        is("kindOf shown " + i + " " + j, shown(), kind);
    }

    static String times(String part, int times) {
        return part.repeat(times);
    }

    /**
     * P is told with n arrows; T, V and W have kinds with P's and each other's inside. T's has 6n + 26 bytes,
     * V's and W's ten more each, and three more for each Int behind.
     */
    static String longText(int n, String more) {
        return "kind P::(" + times("*->", n) + "*)->*;data P a=A;data T f=B(f P P" + more + ");"
            + "data V g=C(g T);data W h=D(h V);";
    }

    static void is(String call, long got, long due) {
        asked++;
        if (got != due) {
            wrong++;
            System.out.println(call + " answered " + got + ", due is " + due);
        }
    }

    static void is(String call, String got, String due) {
        asked++;
        if (!got.equals(due)) {
            wrong++;
            System.out.println(call + " answered \"" + got + "\", due is \"" + due + "\"");
        }
    }

    /** Ends the test: exit code 1 if an answer was wrong. */
    static void end() {
        System.out.println(asked - wrong + " of " + asked + " answers are as due");
        if (wrong > 0) {
            System.exit(1);
        }
    }
}
