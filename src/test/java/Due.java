import java.io.IOException;
import java.nio.charset.StandardCharsets;
import java.nio.file.Files;
import java.nio.file.Path;
import java.util.ArrayList;
import java.util.List;

/** Makes calls with texts in place of numbers, and counts the answers that are not the ones due. */
final class Due {
    /** Behind these calls a test may still ask for hundreds of bytes of one object. */
    private static final int CALLS_BEFORE_A_NEW_ONE = 150;
    private static final Path DOCUMENT = Path.of("../shared/DOC.md");

    private static final List<String> sentences = new ArrayList<>();
    private static int askedBySentence = 0;
    private static int wrong = 0;
    private static int asked = 0;

    Counted x = new Counted();
    private String textRead = null;

    /** The object that is tested; a call that the document leaves free proves nothing, so it counts as wrong. */
    static final class Counted {
        private static final int PROMISED = 512;

        private final KindRounds rounds = new KindRounds();
        private int calls = 0;

        private KindRounds next() {
            calls++;
            if (calls == PROMISED + 1) {
                is("calls on one object", calls, PROMISED);
            }
            return rounds;
        }

        int calls() {
            return calls;
        }

        int feed(int a, int b, int c, int d, int e) {
            return next().feed(a, b, c, d, e);
        }

        int cut(int n) {
            return next().cut(n);
        }

        int read() {
            return next().read();
        }

        int place() {
            return next().place();
        }

        int side(int side) {
            return next().side(side);
        }

        int out(int i) {
            return next().out(i);
        }

        int told(int i, int what) {
            return next().told(i, what);
        }

        int kindOf(int i, int j) {
            return next().kindOf(i, j);
        }

        int groups() {
            return next().groups();
        }

        int member(int group, int k) {
            return next().member(group, k);
        }

        int needs(int i, int j) {
            return next().needs(i, j);
        }

        int kind() {
            return next().kind();
        }

        int plain() {
            return next().plain();
        }

        int same() {
            return next().same();
        }
    }

    /** Names the sentence of the document by which the answers from here on are due. */
    static void sentence(String words) {
        endSentence();
        sentences.add(words);
    }

    private static void endSentence() {
        if (!sentences.isEmpty() && asked == askedBySentence) {
            is("answers asked by the sentence \"" + lastSentence() + "\"", 0, 1);
        }
        askedBySentence = asked;
    }

    private static String lastSentence() {
        return sentences.get(sentences.size() - 1);
    }

    /** Puts a text on the tape, and nothing behind it. */
    void put(String text) {
        if (x.calls() + callsToPut(text) > CALLS_BEFORE_A_NEW_ONE) {
            renew();
        }
        putOnThis(text);
    }

    /** Another object in the same state, but for what was shown and the latest fault. */
    private void renew() {
        x = new Counted();
        if (textRead != null) {
            putOnThis(textRead);
            x.read();
        }
    }

    private static int callsToPut(String text) {
        return text.length() / 20 + 3;
    }

    /** Likewise, and never on a new object. */
    void putOnThis(String text) {
        x.cut(0);
        int[] five = new int[5];
        for (int start = 0; start < text.length(); start += 20) {
            for (int i = 0; i < 20; i++) {
                int b = start + i < text.length() ? text.charAt(start + i) & 255 : ' ';
                five[i / 4] = five[i / 4] << 8 | b;
            }
            x.feed(five[0], five[1], five[2], five[3], five[4]);
        }
        if (text.length() % 20 != 0) {
            x.cut(text.length());
        }
    }

    int read(String text) {
        textRead = null;
        put(text);
        textRead = text;
        return x.read();
    }

    int kind(String type) {
        put(type);
        return x.kind();
    }

    int plain(String type) {
        put(type);
        return x.plain();
    }

    int same(String types) {
        put(types);
        return x.same();
    }

    /** All bytes that out() tells. */
    String shown() {
        StringBuilder all = new StringBuilder();
        for (int b = x.out(0); b >= 0; b = x.out(all.length())) {
            all.append((char) b);
        }
        return all.toString();
    }

    /** The text is read with this answer, and the fault has this place. */
    void readIs(String text, int answer, int place) {
        is("read " + text, read(text), answer);
        is("place of " + text, x.place(), place);
    }

    /** The text is read with fault 6 at this place, with these sides. */
    void clashIs(String text, int place, String left, String right) {
        readIs(text, -16, place);
        sidesAre(text, left, right);
    }

    /** So many are declared by the text. */
    void good(int declared, String text) {
        readIs(text, declared, -3);
    }

    /** The text has this fault; a ^, which is not put on the tape, stands before its place. */
    void fault(int number, String marked) {
        readIs(unmarked(marked), -10 - number, marked.indexOf('^'));
    }

    /** The type, with a ^ likewise, has this fault if it is asked by kind() and by plain(). */
    void typeFault(int number, String marked) {
        kindFails(unmarked(marked), -10 - number, marked.indexOf('^'));
        plainFails(unmarked(marked), -10 - number, marked.indexOf('^'));
    }

    /** The two types, with a ^ likewise, have this fault if they are asked by same(). */
    void sameFault(int number, String marked) {
        sameIs(unmarked(marked), -10 - number, marked.indexOf('^'));
    }

    /** The text, with a ^ likewise, has fault 6 with these sides. */
    void clash(String marked, String left, String right) {
        clashIs(unmarked(marked), marked.indexOf('^'), left, right);
    }

    /** The type, with a ^ likewise, has fault 6 with these sides. */
    void typeClash(String marked, String left, String right) {
        typeFault(6, marked);
        sidesAre(marked, left, right);
    }

    private static String unmarked(String marked) {
        return marked.replace("^", "");
    }

    void sidesAre(String text, String left, String right) {
        is("side 0 of " + text, x.side(0), left.length());
        is("left of " + text, shown(), left);
        is("side 1 of " + text, x.side(1), right.length());
        is("right of " + text, shown(), right);
    }

    void kindIs(String type, String kind) {
        is("kind " + type, kind(type), kind.length());
        is("kind shown of " + type, shown(), kind);
        is("place of kind " + type, x.place(), -3);
    }

    void kindFails(String type, int answer, int place) {
        is("kind " + type, kind(type), answer);
        is("place of kind " + type, x.place(), place);
    }

    void plainIs(String type, String plain) {
        is("plain " + type, plain(type), plain.length());
        is("plain shown of " + type, shown(), plain);
        is("place of plain " + type, x.place(), -3);
    }

    void plainFails(String type, int answer, int place) {
        is("plain " + type, plain(type), answer);
        is("place of plain " + type, x.place(), place);
    }

    void sameIs(String types, int answer, int place) {
        is("same " + types, same(types), answer);
        is("place of same " + types, x.place(), place);
    }

    void declaredKindIs(int i, int j, String kind) {
        is("kindOf " + i + " " + j, x.kindOf(i, j), kind.length());
        is("kindOf shown " + i + " " + j, shown(), kind);
    }

    /** These are the groups, each with its members by numbers. */
    void groupsAre(int[][] due) {
        is("groups", x.groups(), due.length);
        for (int g = 0; g < due.length; g++) {
            for (int k = 0; k < due[g].length; k++) {
                is("member " + g + " " + k, x.member(g, k), due[g][k]);
                is("group of " + due[g][k], x.told(due[g][k], 2), g);
            }
            is("no more in " + g, x.member(g, due[g].length), -1);
        }
    }

    static String times(String part, int times) {
        return part.repeat(times);
    }

    /**
     * P is told with n arrows; T, V and W have kinds with P's and each other's inside. T's has 6n + 26 bytes,
     * V's and W's ten more each, and three more for each Int behind.
     */
    static String longText(int n, String more) {
        return "kind P::(" + times("*->", n) + "*)->*;data P a=A;data T f=B(f P P" + more + ");"
            + "data V g=C(g T);data W h=D(h V);";
    }

    static void is(String call, long got, long due) {
        is(call, Long.toString(got), Long.toString(due));
    }

    static void is(String call, String got, String due) {
        asked++;
        if (!got.equals(due)) {
            wrong++;
            String by = sentences.isEmpty() ? "" : ", by \"" + lastSentence() + "\"";
            System.out.println(call + " answered " + got + ", due is " + due + by);
        }
    }

    /** Ends the test: exit code 1 if an answer was wrong. */
    static void end() {
        endSentence();
        checkSentences();
        System.out.println(asked - wrong + " of " + asked + " answers are as due");
        if (wrong > 0) {
            System.exit(1);
        }
    }

    /** A sentence that the document does not have names nothing. */
    private static void checkSentences() {
        if (sentences.isEmpty() || !Files.isReadable(DOCUMENT)) {
            return;
        }
        String document = oneLine(documentText());
        for (String words : sentences) {
            if (!document.contains(oneLine(words))) {
                wrong++;
                System.out.println("the document has no sentence \"" + words + "\"");
            }
        }
    }

    private static String documentText() {
        try {
            return Files.readString(DOCUMENT, StandardCharsets.ISO_8859_1);
        } catch (IOException e) {
            return "";
        }
    }

    private static String oneLine(String words) {
        return words.replaceAll("\\s+", " ").trim();
    }
}
