/** Makes up texts and types near the limits of the document. */
final class Crowds {
    private final Dice dice;
    private boolean narrow;
    private int synonyms;

    Crowds(Dice dice) {
        this.dice = dice;
    }

    /** Some of what is limited, each with a little less or a little more than may be. */
    String text() {
        StringBuilder text = new StringBuilder();
        int decls = dice.in100(40) ? 14 + dice.below(4) : 1 + dice.below(6);
        int nodes = dice.in100(40) ? 196 + dice.below(8) : dice.below(30);
        for (int i = 0; i < decls; i++) {
            int own = i + 1 == decls ? nodes : dice.below(nodes / 2 + 1);
            nodes -= own;
            decl("T" + (char) ('a' + i), own, text);
        }
        if (dice.in100(20)) {
            text.append("kind Ta::").append(kind()).append(";");
        }
        return text.toString();
    }

    private void decl(String name, int nodes, StringBuilder text) {
        switch (dice.below(4)) {
            case 0:
                text.append("type ").append(name).append(params()).append("=").append(type(nodes)).append(";");
                break;
            case 1:
                text.append("class ").append(name).append(" a{");
                methods(name, nodes, text);
                text.append("};");
                break;
            default:
                text.append("data ").append(name).append(params()).append("=");
                cons(name, nodes, text);
                text.append(";");
                break;
        }
    }

    private String params() {
        return " a b c d".substring(0, dice.below(40) == 0 ? 8 : 2 + 2 * dice.below(3));
    }

    private void cons(String name, int nodes, StringBuilder text) {
        int cons = 1 + (dice.in100(10) ? 4 + dice.below(3) : 0);
        for (int k = 0; k < cons; k++) {
            text.append(k > 0 ? "|" : "").append(name).append(k);
            if (k == 0) {
                text.append("(").append(type(nodes)).append(")");
            }
        }
    }

    private void methods(String name, int nodes, StringBuilder text) {
        int methods = 1 + (dice.in100(10) ? 2 + dice.below(3) : 0);
        for (int k = 0; k < methods; k++) {
            text.append("m").append(name).append(k).append("::").append(k == 0 ? type(nodes) : "a").append(";");
        }
    }

    /** A type of so many nodes, or of one; its kind is *, and so is that of a. */
    String type(int nodes) {
        StringBuilder type = new StringBuilder();
        StringBuilder closings = new StringBuilder();
        int left = nodes;
        for (int nest = dice.in100(10) ? 6 + dice.below(4) : 0; left > 1 && nest > 0; nest--) {
            boolean list = dice.in100(50);
            type.append(list ? "[" : "(");
            closings.insert(0, list ? "]" : ")");
            left -= list ? 1 : 0;
        }
        boolean even = left % 2 == 0 && left > 0;
        type.append(even ? "[a]" : dice.oneOf("a", "Int"));
        for (left -= even ? 2 : 1; left > 1; left -= 2) {
            type.append("->").append(dice.oneOf("a", "a", "(a)", "Int"));
        }
        return type.append(closings).toString();
    }

    private String kind() {
        int nest = 6 + dice.below(4);
        return Due.times("(", nest) + dice.oneOf("*", "*->*") + Due.times(")", nest) + dice.oneOf("", "->*");
    }

    /** Synonyms that come to much: each names those before it, and its parameter, more than once. */
    String growing() {
        StringBuilder text = new StringBuilder("data P a b=K a b;data L a=M a;");
        narrow = dice.in100(40);
        synonyms = 3 + dice.below(7);
        for (int i = 0; i < synonyms; i++) {
            text.append("type ").append(synonym(i)).append(" a=");
            text.append(i == 0 && narrow ? "a" : grown(i, 2, false)).append(";");
        }
        return text.toString();
    }

    private static String synonym(int i) {
        return "S" + (char) ('a' + i);
    }

    /** A type of the names ahead of synonym i; * is its kind. If it is narrow, each name has one behind it. */
    private String grown(int i, int depth, boolean asOne) {
        if (depth == 0) {
            return dice.in100(90) ? "a" : "Int";
        }
        String type;
        int thrown = dice.below(narrow ? 6 : 10);
        if (thrown < 5 && i > 0) {
            int back = dice.in100(85) ? 1 : 1 + dice.below(i);
            type = synonym(i - back) + " " + grown(i, depth - 1, true);
        } else if (thrown < 6) {
            type = dice.in100(30) ? "L " + grown(i, depth - 1, true) : grown(i, depth - 1, false);
        } else if (thrown < 7) {
            return "[" + grown(i, depth - 1, false) + "]";
        } else if (thrown < 9) {
            type = "P " + grown(i, depth - 1, true) + " " + grown(i, depth - 1, true);
        } else {
            type = grown(i, depth - 1, true) + "->" + grown(i, depth - 1, false);
        }
        return asOne ? "(" + type + ")" : type;
    }

    /** A type with the names of the latest growing text. */
    String askedGrown() {
        return grown(synonyms, 1 + dice.below(3), false);
    }

    String asked() {
        return type(dice.in100(50) ? 196 + dice.below(8) : dice.below(40));
    }

    /** Two types, with about so many nodes together as may be. */
    String askedTwo() {
        int one = dice.below(200);
        return type(one) + "," + type(196 + dice.below(8) - one);
    }
}
