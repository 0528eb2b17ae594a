import java.util.ArrayList;
import java.util.List;

/**
 * Makes up texts and types: mostly such that fit a kind that was thrown for each name, so that the faults
 * that come last are come to as well; some wild, some with a token that does not fit.
 */
final class Sayings {
    private static final String[] BIGS =
        {"A", "B", "C", "D", "E", "F", "G", "H", "I", "J", "K", "L"};
    private static final String[] SMALLS = {"a", "b", "c", "f", "g", "x"};
    private static final String[] TOKENS = {"data", "type", "class", "kind", "=", "|", "(", ")", "[", "]", "{", "}",
        ";", ",", "*", "::", "->", "A", "B", "C", "Int", "a", "b", "f", "Abcdefgh", "Abcdefghi", "abcdefghi", ":",
        "-", "9", "\t", "a9", "Type", "datas"};

    /** A name with the kind that was thrown for it, and the ones that must stand behind it. */
    private record Known(String name, String kind, int least) {
    }

    /** A decl: its word, its BIG, its parameters, the kind of its right side. */
    private record Plan(String word, String name, List<Known> params, String result) {
        String kind() {
            String kind = result;
            for (int j = params.size() - 1; j >= 0; j--) {
                kind = arrow(params.get(j).kind, kind);
            }
            return kind;
        }

        Known known() {
            return new Known(name, kind(), word.equals("type") ? params.size() : 0);
        }
    }

    private final Dice dice;
    private final List<Known> bigs = new ArrayList<>();
    private final List<Known> smalls = new ArrayList<>();
    private boolean wild;
    private int room;

    Sayings(Dice dice) {
        this.dice = dice;
    }

    // ---- kinds, as they are SHOWN

    private String kind() {
        int thrown = dice.below(20);
        if (thrown < 11) {
            return "*";
        }
        if (thrown < 16) {
            return "*->*";
        }
        return thrown < 18 ? "*->*->*" : thrown < 19 ? "(*->*)->*" : "(*->*)->*->*";
    }

    private static int arrowOf(String kind) {
        int depth = 0;
        for (int i = 0; i < kind.length(); i++) {
            char c = kind.charAt(i);
            depth += c == '(' ? 1 : c == ')' ? -1 : 0;
            if (depth == 0 && c == '-') {
                return i;
            }
        }
        return -1;
    }

    private static String leftOf(String kind) {
        String left = kind.substring(0, arrowOf(kind));
        return left.startsWith("(") ? left.substring(1, left.length() - 1) : left;
    }

    private static String rightOf(String kind) {
        return kind.substring(arrowOf(kind) + 2);
    }

    private static String arrow(String left, String right) {
        return (arrowOf(left) >= 0 ? "(" + left + ")" : left) + "->" + right;
    }

    // ---- types

    /** How many ones behind it make the first kind the second; -1 if none do. */
    private static int onesBetween(String from, String to) {
        int ones = 0;
        String now = from;
        while (!now.equals(to)) {
            if (arrowOf(now) < 0) {
                return -1;
            }
            now = rightOf(now);
            ones++;
        }
        return ones;
    }

    private void addFitting(List<Known> from, String kind, int most, List<Known> to) {
        for (Known known : from) {
            int ones = onesBetween(known.kind, kind);
            if (wild || ones >= known.least && ones <= most) {
                to.add(known);
            }
        }
    }

    /** A type of this kind; as a one it stands in brackets where it must. */
    private String type(String kind, int depth, boolean asOne) {
        room--;
        if (kind.equals("*") && depth > 0 && room > 0 && dice.in100(22)) {
            String arrow = type("*", depth - 1, true) + blank() + "->" + blank() + type("*", depth - 1, false);
            return asOne ? "(" + arrow + ")" : arrow;
        }
        if (kind.equals("*") && depth > 0 && dice.in100(10)) {
            return "[" + type("*", depth - 1, false) + "]";
        }
        List<Known> fitting = new ArrayList<>();
        boolean deep = depth > 0 && room > 0;
        addFitting(bigs, kind, deep ? 9 : 0, fitting);
        addFitting(smalls, kind, deep ? 9 : 0, fitting);
        if (fitting.isEmpty()) {
            return dice.in100(80) ? "Int" : dice.oneOf(SMALLS);
        }
        Known head = fitting.get(dice.below(fitting.size()));
        int wildOnes = deep ? dice.below(3) : 0;
        return withOnes(head, wild ? wildOnes : onesBetween(head.kind, kind), depth - 1, asOne);
    }

    private String withOnes(Known head, int ones, int depth, boolean asOne) {
        StringBuilder some = new StringBuilder(head.name);
        String now = head.kind;
        for (int i = 0; i < ones; i++) {
            boolean isArrow = arrowOf(now) >= 0;
            some.append(" ").append(type(isArrow ? leftOf(now) : kind(), depth, true));
            now = isArrow ? rightOf(now) : now;
        }
        boolean bracketed = asOne && ones > 0 || dice.in100(4);
        return bracketed ? "(" + some + ")" : some.toString();
    }

    private String blank() {
        return dice.oneOf("", "", " ", "\n", "  ");
    }

    private String wholeType(String kind, int depth, boolean asOne) {
        room = 12;
        wild = dice.in100(2);
        String type = type(kind, depth, asOne);
        wild = false;
        return type;
    }

    // ---- texts

    /** So many declared, and some kinds told for them. */
    String text(int count) {
        List<Plan> plans = new ArrayList<>();
        for (int i = 0; i < count; i++) {
            plans.add(plan(i));
        }
        List<String> decls = new ArrayList<>();
        for (int i = 0; i < count; i++) {
            decls.add(decl(i, plans));
        }
        for (Plan plan : plans) {
            if (dice.in100(8)) {
                decls.add(dice.below(decls.size() + 1), told(plan));
            }
        }
        knowAll(plans);
        StringBuilder text = new StringBuilder();
        for (String decl : decls) {
            text.append(decl).append(blank()).append(";").append(blank());
        }
        return spoiled(text.toString());
    }

    private Plan plan(int i) {
        int thrown = dice.below(10);
        String word = thrown < 5 ? "data" : thrown < 8 ? "type" : "class";
        String name = dice.below(300) == 0 ? dice.oneOf("Int", "A", "B") : BIGS[i];
        String result = word.equals("type") && dice.in100(25) ? kind() : "*";
        return new Plan(word, name, params(word.equals("class") ? 1 : dice.below(4)), result);
    }

    /** Mostly of different names. */
    private List<Known> params(int count) {
        List<Known> params = new ArrayList<>();
        int first = dice.below(SMALLS.length);
        for (int j = 0; j < count; j++) {
            int at = dice.below(400) == 0 ? first : first + j;
            params.add(new Known(SMALLS[at % SMALLS.length], kind(), 0));
        }
        return params;
    }

    private void knowAll(List<Plan> plans) {
        bigs.clear();
        bigs.add(new Known("Int", "*", 0));
        for (Plan plan : plans) {
            if (!plan.word.equals("class") || dice.below(300) == 0) {
                bigs.add(plan.known());
            }
        }
    }

    private String told(Plan plan) {
        String name = dice.below(100) == 0 ? dice.oneOf(BIGS) : plan.name;
        String due = plan.word.equals("class") ? plan.params.get(0).kind : plan.kind();
        return "kind " + name + blank() + "::" + blank() + (dice.in100(85) ? due : kind());
    }

    private String decl(int i, List<Plan> plans) {
        Plan plan = plans.get(i);
        smalls.clear();
        smalls.addAll(plan.params);
        knowAll(plans);
        StringBuilder decl = new StringBuilder(plan.word).append(" ").append(plan.name);
        for (Known param : plan.params) {
            decl.append(" ").append(param.name);
        }
        decl.append(blank()).append(plan.word.equals("class") ? "{" : "=").append(blank());
        switch (plan.word) {
            case "data":
                cons(i, decl);
                break;
            case "type":
                forgetSynonymsFrom(i, plans);
                decl.append(wholeType(plan.result, 2, false));
                break;
            default:
                methods(i, decl);
                break;
        }
        return decl.toString();
    }

    /** Mostly, or there would be rings in nearly every text. */
    private void forgetSynonymsFrom(int from, List<Plan> plans) {
        for (int i = from; i < plans.size() && dice.in100(98); i++) {
            if (plans.get(i).word.equals("type")) {
                bigs.remove(plans.get(i).known());
            }
        }
    }

    private void cons(int i, StringBuilder decl) {
        int cons = 1 + dice.below(3);
        for (int k = 0; k < cons; k++) {
            decl.append(k > 0 ? "|" : "").append(blank());
            decl.append(dice.in100(2) ? "K0" : "K" + (char) ('a' + i) + k);
            for (int ones = dice.below(3); ones > 0; ones--) {
                decl.append(" ").append(wholeType("*", 2, true));
            }
        }
    }

    private void methods(int i, StringBuilder decl) {
        for (int k = dice.below(3); k > 0; k--) {
            decl.append(dice.in100(2) ? "m0" : "m" + (char) ('a' + i) + k).append(blank()).append("::");
            smalls.add(new Known(dice.oneOf("y", "z"), kind(), 0));
            decl.append(wholeType("*", 2, false)).append(";").append(blank());
            smalls.remove(smalls.size() - 1);
        }
        decl.append("}");
    }

    // ---- types that are asked, with the names of the latest text

    String asked() {
        smalls.clear();
        for (String name : SMALLS) {
            smalls.add(new Known(name, kind(), 0));
        }
        return spoiled(wholeType(dice.in100(60) ? "*" : kind(), 3, false));
    }

    /** Mostly the same; else with a token more, a token in place of a byte, or a byte less. */
    private String spoiled(String text) {
        if (text.isEmpty() || dice.in100(88)) {
            return text;
        }
        int at = dice.below(text.length());
        String token = dice.oneOf(TOKENS);
        switch (dice.below(4)) {
            case 0:
                return text.substring(0, at) + " " + token + " " + text.substring(at);
            case 1:
                return text.substring(0, at) + token + text.substring(at + 1);
            case 2:
                return text.substring(0, at);
            default:
                return text.substring(0, at) + text.substring(at + 1);
        }
    }
}
