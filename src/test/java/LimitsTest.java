/** The promises at their limits: full tapes, full texts, kinds that double, and many calls on one object. */
public final class LimitsTest {
    public static void main(String[] args) {
        tapeFullOfTokens();
        manyEquations();
        manyNames();
        manyKinds();
        doubledKinds();
        doubledLetters();
        doubledClash();
        manyAsked();
        manyRead();
        anyNumbers();
        Due.end();
    }

    private static void tapeFullOfTokens() {
        Due d = new Due();
        d.kindFails(Due.times("(", 1200), -12, 8);
        d.readIs(Due.times(";", 1200), -11, 0);
        d.kindFails("a" + Due.times(")", 1199), -11, 1);
        d.sameIs("a" + Due.times(",", 1199), -11, 2);
        d.readIs("kind T::*" + Due.times("->*", 397), -11, 1200);
        d.plainFails(Due.times("x", 1200), -11, 0);
    }

    /** 201 equations: one of a decl kind, and one of each of 200 nodes. */
    private static void manyEquations() {
        Due d = new Due();
        String text = "kind T::*;data F a=B;data T=A" + Due.times(" Int", 199);
        d.readIs(text + " F;", -16, text.length() + 1);
        d.readIs(text + " T;", 2, -3);
        d.readIs(text + " T T;", -12, text.length() + 3);
    }

    private static void manyNames() {
        Due d = new Due();
        StringBuilder text = new StringBuilder();
        for (int i = 0; i < 16; i++) {
            char c = (char) ('A' + i);
            text.append("data ").append(c).append(" a b c=");
            for (int k = 0; k < 6; k++) {
                text.append(k == 0 ? "" : "|").append(c).append(k).append(k < 3 ? " a" : "");
            }
            text.append(";");
        }
        d.readIs(text.toString(), 16, -3);
        text.append("kind P::*->*->*->*;kind Q::*;");
        d.readIs(text.toString(), -13, text.length() - 5);
    }

    /** As many kinds as a tape can make: arrows that are told, and names with kinds of their own. */
    private static void manyKinds() {
        Due d = new Due();
        StringBuilder text = new StringBuilder("class C c{m::all");
        for (int i = 0; i < 198; i++) {
            text.append(' ').append((char) ('a' + i % 26)).append(i < 26 ? "" : "" + (char) ('A' + i / 26));
        }
        text.append(";};kind C::*");
        String before = text.toString();
        int arrows = (1200 - before.length() - 1) / 3;
        d.readIs(before + Due.times("->*", arrows) + ";", 1, -3);
        Due.is("all of C", d.x.kindOf(0, -1), 3 * arrows + 1);
        String asked = "k" + Due.times(" (x y)", 99);
        d.kindIs(asked + " z", "*");
        d.kindFails(asked + " z z", -12, asked.length() + 3);
        d.kindFails(asked + " k", -16, asked.length() + 1);
    }

    /** Each name has a kind with the one before it twice. */
    private static String doubling(String names) {
        StringBuilder type = new StringBuilder();
        for (int i = 1; i < names.length(); i++) {
            String before = " " + names.charAt(i - 1);
            type.append(names.charAt(i)).append(before).append(before).append("->");
        }
        return type.toString();
    }

    private static void doubledKinds() {
        Due d = new Due();
        d.read("class C z{m::a Int->" + doubling("abcdefghijklmnopqrstuvwxyz") + "Int;};");
        Due.is("too long by far", d.x.kindOf(0, -1), -4);
        Due.is("nothing open", d.x.told(0, 5), 0);
        d.read("class C h{m::" + doubling("abcdefgh") + "Int;};");
        Due.is("1015 bytes", d.x.kindOf(0, 0), doubledLength(7));
        Due.is("something open", d.x.told(0, 5), 1);
        d.read("class C i{m::a->" + doubling("abcdefghi") + "Int;};");
        Due.is("2039 bytes", d.x.kindOf(0, 0), -4);
    }

    private static int doubledLength(int times) {
        int length = 1;
        for (int i = 0; i < times; i++) {
            length = length == 1 ? 7 : 2 * (length + 2) + 5;
        }
        return length;
    }

    /** What is open behind a doubled kind comes after all that is open in it. */
    private static void doubledLetters() {
        Due d = new Due();
        String type = "[a u v]->" + doubling("abcdefghijklmnopqrstuvw").replace("u t t->v u u->w v v->", "")
            + "x t t y->x Int";
        d.kindFails(type, -16, type.length() - 3);
        Due.is("left is too long", d.x.side(0), -4);
        Due.is("right", d.x.side(1), 4);
        Due.is("right has the fourth letter", d.shown(), "*->d");
    }

    /** Two doubled kinds are found alike; what is beside them is not. */
    private static void doubledClash() {
        String lower = "abcdefghijklmnopqrs";
        StringBuilder type = new StringBuilder(doubling(lower));
        for (String part : doubling(lower).split("->")) {
            type.append(part.replaceAll("([a-z])", "$1$1")).append("->");
        }
        Due d = new Due();
        String alike = type + "x y s->x z ss->v x->v x";
        d.kindIs(alike, "*");
        String beside = type + "t y s->w z ss->y->z Int->u t->u w";
        d.kindFails(beside, -16, beside.length() - 1);
        Due.is("left is too long", d.x.side(0), -4);
        Due.is("right is too long", d.x.side(1), -4);
    }

    /** As many questions as 512 calls allow, on one object: none may leave its kinds behind. */
    private static void manyAsked() {
        Due d = new Due();
        d.read("data L a = A a ;");
        String ones = "f" + Due.times(" x", 99);
        for (int i = 0; i < 12; i++) {
            d.putOnThis("[" + ones + "]");
            Due.is("kind", d.x.kind(), 1);
            d.putOnThis(ones);
            Due.is("plain", d.x.plain(), ones.length());
            d.putOnThis(ones + " f");
            Due.is("fault", d.x.kind(), -16);
        }
        d = new Due();
        for (int i = 0; i < 13; i++) {
            d.putOnThis(ones + "," + ones);
            Due.is("same", d.x.same(), 1);
            d.putOnThis(ones + ",f f");
            Due.is("fault", d.x.same(), -16);
        }
        d.putOnThis("f x -> f");
        Due.is("still", d.x.kind(), -16);
        Due.is("left", d.x.side(0), 4);
    }

    private static void manyRead() {
        Due d = new Due();
        String text = "class C f{m::f" + Due.times(" x", 99) + ";};data L a=A[a];";
        for (int i = 0; i < 13; i++) {
            d.putOnThis(text);
            Due.is("read", d.x.read(), 2);
            Due.is("kind", d.x.kindOf(0, -1), 3 * 99 + 1);
            d.putOnThis(text + "data T=B L;");
            Due.is("fault", d.x.read(), -16);
        }
        d.putOnThis(text);
        Due.is("read", d.x.read(), 2);
        d.putOnThis("L L");
        Due.is("kind", d.x.kind(), -16);
        d.sidesAre("L L", "*->*", "(*->*)->a");
    }

    /** No call may throw, whatever it is given. */
    private static void anyNumbers() {
        int[] some = {Integer.MIN_VALUE, -1000000, -2, -1, 0, 1, 2, 15, 16, 47, 48, 2400, Integer.MAX_VALUE};
        for (String text : new String[] {"", "data T a = A a ; type S a = a ;", "data T = (", "type T = Int Int ;"}) {
            for (int a : some) {
                Due d = new Due();
                d.read(text);
                d.x.side(a);
                d.x.out(a);
                d.x.cut(a);
                for (int b : some) {
                    d.x.told(a, b);
                    d.x.kindOf(a, b);
                    d.x.member(a, b);
                    d.x.needs(a, b);
                }
                d.x.feed(a, a, a, a, a);
                d.x.kind();
                d.x.plain();
                d.x.same();
                Due.is("after any numbers", d.read("data T = A ;"), 1);
            }
        }
    }
}
