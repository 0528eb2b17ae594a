/** Part 1 of the document, sentence by sentence: the tape and its tokens. */
public final class TokenSentencesTest {
    private static final String[] WORDS = {"data", "type", "class", "kind"};

    public static void main(String[] args) {
        tape();
        asLongAsCanBe();
        blanks();
        bigNames();
        smallNames();
        words();
        signs();
        Due.end();
    }

    private static void tape() {
        Due.sentence("THE TAPE has up to 1200 bytes.");
        Due d = new Due();
        for (int i = 1; i <= 60; i++) {
            Due.is("feed " + i, d.x.feed(0x20202020, 0x20202020, 0x20202020, 0x20202020, 0x20202020), 20 * i);
        }
        Due.is("feed 61", d.x.feed(0x21212121, 0, 0, 0, 0), -4);
        Due.is("it has no more", d.x.cut(1201), -2);
        Due.is("it has 1200", d.x.cut(1200), 0);
        Due.is("all of them are blanks", d.x.read(), 0);
        String full = "data T=A" + Due.times(" ", 1191);
        d.good(1, full + ";");
        d.fault(1, full + " ^");
        d.fault(1, full + "^!");
        String tokens = "((((((((f))))))))" + Due.times("((((((((a))))))))", 69) + "(((a)))(a";
        d.kindIs(tokens + ")", "*");
        d.typeFault(1, tokens + " ^");
        d.typeFault(1, tokens + "^]");
    }

    private static void asLongAsCanBe() {
        Due.sentence("TOKENS, each as long as can be");
        Due d = new Due();
        d.fault(1, "^dataT=A;");
        d.fault(1, "data ^1T=A;");
        d.good(1, "data TU a1b=A a1b;");
        Due.is("one parameter", d.x.told(0, 1), 1);
        d.kindIs("TU", "*->*");
        d.kindFails("T", -13, 0);
        d.good(1, "type S a=a->a->a;");
        d.good(1, "kind S::*->*;type S a=a;");
        d.fault(1, "kind S::^:*;");
        d.fault(1, "type S=Int->^>Int;");
        d.fault(1, "type S=Int^-->Int;");
    }

    /** One byte between two names: a blank parts them, a letter or digit makes them one, others can't stand. */
    private static void blanks() {
        Due.sentence("with blanks (32, 10) between");
        Due d = new Due();
        for (int b = 0; b < 256; b++) {
            String text = "data" + (char) b + "T=A;";
            if (b == 32 || b == 10) {
                d.readIs(text, 1, -3);
            } else {
                d.readIs(text, -11, isNameByte(b) ? 0 : 4);
            }
        }
        d.good(1, "\n \n data\n\n T  =\nA ; \n");
        d.good(1, "data T=A|B(T)[T];");
        d.good(0, "");
        d.good(0, " ");
        d.good(0, "\n");
    }

    private static void bigNames() {
        Due.sentence("BIG NAMES (A .. Z, then letters and digits, 8 bytes at most)");
        Due d = new Due();
        for (int b = 0; b < 256; b++) {
            d.readIs("data T=" + (char) b + ";", b >= 'A' && b <= 'Z' ? 1 : -11, firstBytePlace(b));
        }
        namesEnd(d, "data T", "=A;");
        d.good(1, "data Abcdefg8=A;");
        d.fault(1, "data ^Abcdefg89=A;");
        d.good(1, "data T=A0000009;");
        d.fault(1, "data T=^A00000089;");
        d.good(1, "kind Zzzzzzzz::*;data Zzzzzzzz=A;");
        d.fault(1, "kind ^Zzzzzzzzz::*;");
        d.good(2, "data Abcdefg1=A;data Abcdefg2=B;");
        d.good(2, "data Tbcdefgh=A;data Ubcdefgh=B;");
    }

    /** Of a con's one byte: no place if it is a BIG; blanks leave the ; to be what can't stand. */
    private static int firstBytePlace(int b) {
        if (b >= 'A' && b <= 'Z') {
            return -3;
        }
        return b == 32 || b == 10 ? 8 : 7;
    }

    /** Every byte behind the first one of a name; behind it the text goes on with a =. */
    private static void namesEnd(Due d, String before, String behind) {
        for (int b = 0; b < 256; b++) {
            String text = before + (char) b + behind;
            if (isNameByte(b) || b == 32 || b == 10) {
                d.readIs(text, 1, -3);
            } else {
                d.readIs(text, -11, b == '=' ? before.length() + 1 : before.length());
            }
        }
    }

    private static boolean isNameByte(int b) {
        return b >= 'A' && b <= 'Z' || b >= 'a' && b <= 'z' || b >= '0' && b <= '9';
    }

    private static void smallNames() {
        Due.sentence("SMALL NAMES (a .. z, then likewise)");
        Due d = new Due();
        for (int b = 0; b < 256; b++) {
            String method = "class C a{" + (char) b + "::Int;};";
            if (b >= 'a' && b <= 'z') {
                d.readIs(method, 1, -3);
            } else if (b == '}') {
                d.readIs(method, -11, 11);
            } else {
                d.readIs(method, -11, b == 32 || b == 10 ? 11 : 10);
            }
        }
        namesEnd(d, "data T a", "=A;");
        d.good(1, "data T abcdefg8=A abcdefg8;");
        d.fault(1, "data T ^abcdefg89=A;");
        d.good(1, "class C a{m0000008::a;};");
        d.fault(1, "class C a{^m00000089::a;};");
        d.good(1, "data T abcdefg1 abcdefg2=A abcdefg1 abcdefg2;");
        d.good(1, "data T tbcdefgh ubcdefgh=A;");
        d.kindIs("zzzzzzzz", "*");
        d.typeFault(1, "^zzzzzzzzz");
        d.typeFault(1, "^datatypes1");
    }

    private static void words() {
        Due.sentence("but the words data type class kind");
        Due d = new Due();
        for (String word : WORDS) {
            d.fault(1, "data T ^" + word + "=A;");
            d.fault(1, "data T=A ^" + word + ";");
            d.fault(1, "class C ^" + word + "{};");
            d.fault(1, "class C a{^" + word + "::a;};");
            d.typeFault(1, "^" + word);
            d.typeFault(1, "a ^" + word);
            d.good(1, "data T " + word + "1=A " + word + "1;");
            d.good(1, "data T " + word + "s=A " + word + "s;");
            String less = word.substring(0, word.length() - 1);
            d.good(1, "data T " + less + "=A " + less + ";");
            String big = Character.toUpperCase(word.charAt(0)) + word.substring(1);
            d.good(1, "data " + big + "=" + big + " " + big + ";");
        }
    }

    private static void signs() {
        Due.sentence("the signs = | ( ) [ ] { } ; , * :: -> .");
        Due d = new Due();
        for (int b = 0; b < 256; b++) {
            boolean blank = b == 32 || b == 10;
            d.readIs("" + (char) b, blank ? 0 : -11, blank ? -3 : 0);
        }
        d.good(2, "kind T::(*->*)->*;data T f=A(f[Int])|B;class C a{m::a;};");
        d.sameIs("a,a", 1, -3);
        d.fault(1, "kind T ^: : *;");
        d.fault(1, "kind T ^:");
        d.fault(1, "kind T ^:*;");
        d.fault(1, "type T=Int ^- > Int;");
        d.fault(1, "type T=Int ^-");
        d.fault(1, "type T=Int^-Int;");
        d.fault(1, "type T=Int ^> Int;");
        d.fault(1, "type T=Int ^. Int;");
    }
}
