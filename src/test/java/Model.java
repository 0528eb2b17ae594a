import java.util.ArrayList;
import java.util.HashMap;
import java.util.HashSet;
import java.util.List;
import java.util.Map;
import java.util.Set;
import java.util.TreeSet;

/**
 * What the document asks for, told once more with trees, maps and exceptions: slow, and unlike the class in
 * all that the document leaves free, so that a slip in one of them shows.
 */
final class Model {
    /** Sorts of tokens; a sign's sort is the sign. */
    private static final String BIG = "BIG";
    private static final String SMALL = "SMALL";
    private static final String NO_TOKEN = "NONE";
    private static final String END = "END";
    private static final Set<String> WORDS = Set.of("data", "type", "class", "kind");
    private static final List<String> SIGNS =
        List.of("::", "->", "=", "|", "(", ")", "[", "]", "{", "}", ";", ",", "*");

    private record Token(String sort, String name, int place) {
    }

    private static final class Fault extends RuntimeException {
        private static final long serialVersionUID = 1L;
        final int number;
        final int place;
        String[] sides = null;

        Fault(int number, int place) {
            super(null, null, false, false);
            this.number = number;
            this.place = place;
        }
    }

    /** A name, an application, an arrow, a list: what it is made of, and its first token's place. */
    private record Type(String sort, String name, Type left, Type right, int place) {
        Type at(int other) {
            return new Type(sort, name, left, right, other);
        }

        int nodes() {
            int own = sort.equals("apply") ? 0 : 1;
            return own + (left == null ? 0 : left.nodes()) + (right == null ? 0 : right.nodes());
        }
    }

    /** A BIG in a type, with the ones behind it in its some, or -1 if it is not the first there. */
    private record Mention(String name, int place, int behind) {
    }

    private record Spot(String name, int place) {
    }

    private static final class Decl {
        String word;
        Spot big;
        final List<Spot> params = new ArrayList<>();
        final List<Spot> items = new ArrayList<>();
        final List<Type> types = new ArrayList<>();
        final List<Mention> bigs = new ArrayList<>();
        final List<Spot> smalls = new ArrayList<>();
        final List<Kind> paramKinds = new ArrayList<>();
        Kind result;
        Kind kind;
        int group;
        int opens;

        int param(String name) {
            for (int j = 0; j < params.size(); j++) {
                if (params.get(j).name.equals(name)) {
                    return j;
                }
            }
            return -1;
        }
    }

    private record Told(Spot big, Kind kind) {
    }

    /** The star has no sides; an open one has a number above 0. */
    private record Kind(int open, Kind left, Kind right) {
        boolean isArrow() {
            return left != null;
        }
    }

    private record Equation(Kind left, Kind right, int place) {
    }

    private static final Kind STAR = new Kind(0, null, null);

    private String tape = "";
    private List<Decl> declared = new ArrayList<>();
    private List<List<Integer>> groups = new ArrayList<>();
    private Fault fault = null;
    private String shown = "";
    private int opened = 0;

    // ---- the tape

    int feed(int a, int b, int c, int d, int e) {
        if (tape.length() > 1180) {
            return -4;
        }
        StringBuilder more = new StringBuilder(tape);
        for (int four : new int[] {a, b, c, d, e}) {
            more.append((char) (four >> 24 & 255)).append((char) (four >> 16 & 255));
            more.append((char) (four >> 8 & 255)).append((char) (four & 255));
        }
        tape = more.toString();
        return tape.length();
    }

    int cut(int n) {
        if (n < 0 || tape.length() < n) {
            return -2;
        }
        int before = tape.length();
        tape = tape.substring(0, n);
        return before - n;
    }

    private String takeTape() {
        String all = tape;
        tape = "";
        return all;
    }

    // ---- the calls

    int read() {
        fault = null;
        declared = new ArrayList<>();
        groups = new ArrayList<>();
        List<Decl> found = new ArrayList<>();
        List<Told> told = new ArrayList<>();
        try {
            new Reader(takeTape()).text(found, told);
            checkNames(found, told);
            checkRings(found);
            for (Decl d : found) {
                checkLacks(d.bigs, found);
            }
            List<List<Integer>> order = order(found);
            for (int g = 0; g < order.size(); g++) {
                solveGroup(order.get(g), g, found, told);
            }
            declared = found;
            groups = order;
        } catch (Fault f) {
            fault = f;
            return -10 - f.number;
        }
        return declared.size();
    }

    int place() {
        return fault == null ? -3 : fault.place;
    }

    int side(int side) {
        if (side < 0 || side > 1) {
            return -2;
        }
        if (fault == null || fault.sides == null) {
            return -3;
        }
        return showAtMost2000(fault.sides[side]);
    }

    int out(int i) {
        return i < 0 || i >= shown.length() ? -1 : shown.charAt(i);
    }

    private boolean isDeclared(int i) {
        return i >= 0 && i < declared.size();
    }

    int told(int i, int what) {
        if (!isDeclared(i)) {
            return -1;
        }
        if (what < 0 || what > 5) {
            return -2;
        }
        Decl d = declared.get(i);
        int sort = List.of("data", "type", "class").indexOf(d.word);
        int[] all = {sort, d.params.size(), d.group, d.big.place, d.items.size(), d.opens};
        return all[what];
    }

    int kindOf(int i, int j) {
        if (!isDeclared(i) || j < -1 || j >= declared.get(i).params.size()) {
            return -1;
        }
        Decl d = declared.get(i);
        return showAtMost2000(kindText(j == -1 ? d.kind : d.paramKinds.get(j), null));
    }

    int groups() {
        return groups.size();
    }

    int member(int group, int k) {
        if (group < 0 || group >= groups.size() || k < 0 || k >= groups.get(group).size()) {
            return -1;
        }
        return groups.get(group).get(k);
    }

    int needs(int i, int j) {
        if (!isDeclared(i) || !isDeclared(j)) {
            return -1;
        }
        return needed(i, declared).contains(j) ? 1 : 0;
    }

    int kind() {
        fault = null;
        try {
            Kind kind = takeTypes(1).get(0).kind;
            return showAtMost2000(kindText(kind, null));
        } catch (Fault f) {
            fault = f;
            return -10 - f.number;
        }
    }

    int plain() {
        fault = null;
        try {
            Type type = withoutSynonyms(takeTypes(1).get(0).types.get(0));
            if (type == null) {
                return -4;
            }
            shown = typeText(type);
            return shown.length();
        } catch (Fault f) {
            fault = f;
            return -10 - f.number;
        }
    }

    int same() {
        fault = null;
        try {
            List<Decl> both = takeTypes(2);
            Type one = withoutSynonyms(both.get(0).types.get(0));
            Type other = withoutSynonyms(both.get(1).types.get(0));
            if (one == null || other == null) {
                return -4;
            }
            return typeText(one).equals(typeText(other)) ? 1 : 0;
        } catch (Fault f) {
            fault = f;
            return -10 - f.number;
        }
    }

    private int showAtMost2000(String text) {
        if (text.length() > 2000) {
            return -4;
        }
        shown = text;
        return text.length();
    }

    // ---- faults 1 and 2

    /** Reads from the left, and throws the fault of the first token that can't stand or is too much. */
    private final class Reader {
        private final List<Token> tokens = new ArrayList<>();
        private int next = 0;
        private int nodes = 0;
        private Decl now;

        Reader(String all) {
            int from = 0;
            while (from < all.length()) {
                if (all.charAt(from) == ' ' || all.charAt(from) == '\n') {
                    from++;
                } else {
                    from = addToken(all, from);
                }
            }
            tokens.add(new Token(END, "", all.length()));
        }

        private int addToken(String all, int from) {
            int end = from;
            if (("" + all.charAt(from)).matches("[A-Za-z]")) {
                while (end < all.length() && ("" + all.charAt(end)).matches("[A-Za-z0-9]")) {
                    end++;
                }
                String name = all.substring(from, end);
                String sort = Character.isUpperCase(name.charAt(0)) ? BIG : WORDS.contains(name) ? name : SMALL;
                tokens.add(new Token(name.length() > 8 ? NO_TOKEN : sort, name, from));
                return end;
            }
            for (String sign : SIGNS) {
                if (all.startsWith(sign, from)) {
                    tokens.add(new Token(sign, "", from));
                    return from + sign.length();
                }
            }
            tokens.add(new Token(NO_TOKEN, "", from));
            return from + 1;
        }

        private boolean sees(String sort) {
            return tokens.get(next).sort.equals(sort);
        }

        private int place() {
            return tokens.get(next).place;
        }

        private Token need(String sort) {
            if (!sees(sort)) {
                throw new Fault(1, place());
            }
            return tokens.get(next++);
        }

        private Spot needName(String sort, boolean tooMuch) {
            Token token = need(sort);
            if (tooMuch) {
                throw new Fault(2, token.place);
            }
            return new Spot(token.name, token.place);
        }

        void text(List<Decl> found, List<Told> told) {
            while (!sees(END)) {
                if (sees("kind")) {
                    need("kind");
                    Spot big = needName(BIG, false);
                    need("::");
                    told.add(new Told(big, kind(0)));
                } else {
                    decl(found);
                }
                need(";");
            }
        }

        private void decl(List<Decl> found) {
            now = new Decl();
            now.word = tokens.get(next).sort;
            if (!WORDS.contains(now.word)) {
                throw new Fault(1, place());
            }
            next++;
            now.big = needName(BIG, found.size() == 16);
            found.add(now);
            if (now.word.equals("class")) {
                now.params.add(needName(SMALL, false));
                methods();
                return;
            }
            while (sees(SMALL)) {
                now.params.add(needName(SMALL, now.params.size() == 3));
            }
            need("=");
            if (now.word.equals("type")) {
                now.types.add(type(0));
                return;
            }
            con();
            while (sees("|")) {
                need("|");
                con();
            }
        }

        private void con() {
            now.items.add(needName(BIG, now.items.size() == 6));
            while (seesOne()) {
                boolean bare = sees(BIG);
                Type one = one(0);
                now.types.add(one);
                if (bare) {
                    now.bigs.add(new Mention(one.name, one.place, 0));
                }
            }
        }

        private void methods() {
            need("{");
            while (!sees("}")) {
                now.items.add(needName(SMALL, now.items.size() == 4));
                need("::");
                now.types.add(type(0));
                need(";");
            }
            need("}");
        }

        private Kind kind(int depth) {
            Kind part = STAR;
            if (sees("(")) {
                bracket("(", depth);
                part = kind(depth + 1);
                need(")");
            } else {
                need("*");
            }
            if (!sees("->")) {
                return part;
            }
            need("->");
            return new Kind(0, part, kind(depth));
        }

        private void bracket(String sign, int depth) {
            Token token = need(sign);
            if (depth == 8) {
                throw new Fault(2, token.place);
            }
        }

        private void countNode(int place) {
            nodes++;
            if (nodes == 201) {
                throw new Fault(2, place);
            }
        }

        private Type type(int depth) {
            Type left = some(depth);
            if (!sees("->")) {
                return left;
            }
            countNode(need("->").place);
            return new Type("arrow", null, left, type(depth), left.place);
        }

        private Type some(int depth) {
            boolean bare = sees(BIG);
            Type first = one(depth);
            Type whole = first;
            int behind = 0;
            while (seesOne()) {
                boolean bareToo = sees(BIG);
                Type x = one(depth);
                if (bareToo) {
                    now.bigs.add(new Mention(x.name, x.place, -1));
                }
                whole = new Type("apply", null, whole, x, first.place);
                behind++;
            }
            if (bare) {
                now.bigs.add(new Mention(first.name, first.place, behind));
            }
            return whole;
        }

        private boolean seesOne() {
            return sees(BIG) || sees(SMALL) || sees("(") || sees("[");
        }

        private Type one(int depth) {
            int place = place();
            if (sees(BIG) || sees(SMALL)) {
                Token token = tokens.get(next);
                countNode(place);
                next++;
                if (token.sort.equals(SMALL)) {
                    now.smalls.add(new Spot(token.name, place));
                }
                return new Type(token.sort, token.name, null, null, place);
            }
            if (sees("[")) {
                bracket("[", depth);
                countNode(place);
                Type inside = type(depth + 1);
                need("]");
                return new Type("list", null, inside, null, place);
            }
            bracket("(", depth);
            Type inside = type(depth + 1);
            need(")");
            return inside.at(place);
        }

        List<Decl> types(int count) {
            List<Decl> all = new ArrayList<>();
            for (int i = 0; i < count; i++) {
                if (i > 0) {
                    need(",");
                }
                now = new Decl();
                now.types.add(type(0));
                all.add(now);
            }
            need(END);
            return all;
        }
    }

    // ---- faults 3, 4 and 5

    private static void throwFirst(int number, TreeSet<Integer> places) {
        if (!places.isEmpty()) {
            throw new Fault(number, places.first());
        }
    }

    /** Adds the places at which a name of the list stands that stood there before. */
    private static void addSeconds(List<Spot> names, TreeSet<Integer> places) {
        Map<String, Integer> firsts = new HashMap<>();
        for (Spot name : names) {
            if (firsts.putIfAbsent(name.name, name.place) != null) {
                places.add(name.place);
            }
        }
    }

    private static void checkNames(List<Decl> found, List<Told> told) {
        TreeSet<Integer> places = new TreeSet<>();
        List<Spot> bigs = new ArrayList<>();
        List<Spot> cons = new ArrayList<>();
        List<Spot> methods = new ArrayList<>();
        List<Spot> kinds = new ArrayList<>();
        bigs.add(new Spot("Int", -1));
        for (Decl d : found) {
            bigs.add(d.big);
            (d.word.equals("data") ? cons : methods).addAll(d.items);
            addSeconds(d.params, places);
            addUntold(d, found, places);
        }
        for (Told t : told) {
            kinds.add(t.big);
            if (found.stream().noneMatch(d -> d.big.name.equals(t.big.name))) {
                places.add(t.big.place);
            }
        }
        for (List<Spot> sort : List.of(bigs, cons, methods, kinds)) {
            addSeconds(sort, places);
        }
        throwFirst(3, places);
    }

    private static void addUntold(Decl d, List<Decl> found, TreeSet<Integer> places) {
        for (Mention m : d.bigs) {
            if (!m.name.equals("Int") && typeNamed(m.name, found) == null) {
                places.add(m.place);
            }
        }
        for (Spot small : d.smalls) {
            if (d.word != null && !d.word.equals("class") && d.param(small.name) < 0) {
                places.add(small.place);
            }
        }
    }

    private static Decl typeNamed(String name, List<Decl> found) {
        for (Decl d : found) {
            if (d.big.name.equals(name) && !d.word.equals("class")) {
                return d;
            }
        }
        return null;
    }

    private static void checkRings(List<Decl> found) {
        TreeSet<Integer> places = new TreeSet<>();
        for (Decl d : found) {
            if (d.word.equals("type") && comesTo(d, d, found, new HashSet<>())) {
                places.add(d.big.place);
            }
        }
        throwFirst(4, places);
    }

    private static boolean comesTo(Decl from, Decl to, List<Decl> found, Set<Decl> seen) {
        for (Mention m : from.bigs) {
            Decl named = typeNamed(m.name, found);
            if (named == null || !named.word.equals("type")) {
                continue;
            }
            if (named == to || seen.add(named) && comesTo(named, to, found, seen)) {
                return true;
            }
        }
        return false;
    }

    private static void checkLacks(List<Mention> bigs, List<Decl> found) {
        TreeSet<Integer> places = new TreeSet<>();
        for (Mention m : bigs) {
            Decl named = typeNamed(m.name, found);
            boolean synonym = named != null && named.word.equals("type") && !named.params.isEmpty();
            if (synonym && m.behind < named.params.size()) {
                places.add(m.place);
            }
        }
        throwFirst(5, places);
    }

    // ---- groups

    private static Set<Integer> needed(int i, List<Decl> found) {
        Set<Integer> all = new TreeSet<>();
        List<Integer> todo = new ArrayList<>(List.of(i));
        while (!todo.isEmpty()) {
            for (Mention m : found.get(todo.remove(0)).bigs) {
                int named = found.indexOf(typeNamed(m.name, found));
                if (named >= 0 && all.add(named)) {
                    todo.add(named);
                }
            }
        }
        return all;
    }

    private static List<List<Integer>> order(List<Decl> found) {
        List<List<Integer>> waiting = new ArrayList<>();
        Set<Integer> grouped = new HashSet<>();
        for (int i = 0; i < found.size(); i++) {
            if (grouped.contains(i)) {
                continue;
            }
            List<Integer> group = new ArrayList<>(List.of(i));
            for (int j = i + 1; j < found.size(); j++) {
                if (needed(i, found).contains(j) && needed(j, found).contains(i)) {
                    group.add(j);
                }
            }
            grouped.addAll(group);
            waiting.add(group);
        }
        List<List<Integer>> come = new ArrayList<>();
        while (!waiting.isEmpty()) {
            List<Integer> next = firstReady(waiting, found);
            waiting.remove(next);
            come.add(next);
        }
        return come;
    }

    /** Those that wait stand by their least, so the first that needs no other one is next. */
    private static List<Integer> firstReady(List<List<Integer>> waiting, List<Decl> found) {
        for (List<Integer> group : waiting) {
            Set<Integer> wanted = new HashSet<>();
            for (int i : group) {
                wanted.addAll(needed(i, found));
            }
            wanted.removeAll(group);
            if (waiting.stream().noneMatch(other -> other.stream().anyMatch(wanted::contains))) {
                return group;
            }
        }
        throw new IllegalStateException("no group is ready");
    }

    // ---- equations

    private Kind open() {
        opened++;
        return new Kind(opened, null, null);
    }

    private void solveGroup(List<Integer> group, int number, List<Decl> found, List<Told> told) {
        List<Equation> equations = new ArrayList<>();
        for (int i : group) {
            makeKinds(found.get(i));
        }
        for (Told t : told) {
            for (int i : group) {
                if (found.get(i).big.name.equals(t.big.name)) {
                    equations.add(new Equation(found.get(i).kind, t.kind, t.big.place));
                }
            }
        }
        for (int i : group) {
            Decl d = found.get(i);
            for (Type t : d.types) {
                Kind kind = list(t, d, new HashMap<>(), found, equations);
                equations.add(new Equation(kind, d.result, t.place));
            }
        }
        Map<Integer, Kind> solved = solve(equations);
        for (int i : group) {
            closeKinds(found.get(i), number, solved);
        }
    }

    private void makeKinds(Decl d) {
        for (int j = 0; j < d.params.size(); j++) {
            d.paramKinds.add(open());
        }
        d.result = d.word.equals("type") ? open() : STAR;
        if (d.word.equals("class")) {
            d.kind = d.paramKinds.get(0);
            return;
        }
        d.kind = d.result;
        for (int j = d.params.size() - 1; j >= 0; j--) {
            d.kind = new Kind(0, d.paramKinds.get(j), d.kind);
        }
    }

    private static void closeKinds(Decl d, int group, Map<Integer, Kind> solved) {
        d.group = group;
        for (int j = 0; j < d.params.size(); j++) {
            Kind kind = whole(d.paramKinds.get(j), solved);
            d.opens += hasOpen(kind) ? 1 : 0;
            d.paramKinds.set(j, closed(kind));
        }
        d.kind = closed(whole(d.kind, solved));
    }

    private static boolean hasOpen(Kind kind) {
        return kind.open > 0 || kind.isArrow() && (hasOpen(kind.left) || hasOpen(kind.right));
    }

    private static Kind closed(Kind kind) {
        return kind.isArrow() ? new Kind(0, closed(kind.left), closed(kind.right)) : STAR;
    }

    /** Lists the equations of a type, and answers its kind. */
    private Kind list(Type t, Decl d, Map<String, Kind> free, List<Decl> found, List<Equation> equations) {
        switch (t.sort) {
            case "apply":
                Kind f = list(t.left, d, free, found, equations);
                Kind x = list(t.right, d, free, found, equations);
                Kind l = open();
                equations.add(new Equation(f, new Kind(0, x, l), t.right.place));
                return l;
            case "arrow":
                equations.add(new Equation(list(t.left, d, free, found, equations), STAR, t.left.place));
                equations.add(new Equation(list(t.right, d, free, found, equations), STAR, t.right.place));
                return STAR;
            case "list":
                equations.add(new Equation(list(t.left, d, free, found, equations), STAR, t.left.place));
                return STAR;
            case BIG:
                return t.name.equals("Int") ? STAR : typeNamed(t.name, found).kind;
            default:
                int j = d.param(t.name);
                return j >= 0 ? d.paramKinds.get(j) : free.computeIfAbsent(t.name, name -> open());
        }
    }

    /** What the open ones are; throws fault 6 with the sides as the equations before make them. */
    private static Map<Integer, Kind> solve(List<Equation> equations) {
        Map<Integer, Kind> solved = new HashMap<>();
        for (Equation e : equations) {
            Map<Integer, Kind> before = new HashMap<>(solved);
            if (!unify(e.left, e.right, solved)) {
                Fault clash = new Fault(6, e.place);
                List<Integer> letters = new ArrayList<>();
                String left = kindText(whole(e.left, before), letters);
                clash.sides = new String[] {left, kindText(whole(e.right, before), letters)};
                throw clash;
            }
        }
        return solved;
    }

    private static Kind look(Kind kind, Map<Integer, Kind> solved) {
        Kind now = kind;
        while (now.open > 0 && solved.containsKey(now.open)) {
            now = solved.get(now.open);
        }
        return now;
    }

    private static boolean unify(Kind one, Kind other, Map<Integer, Kind> solved) {
        Kind a = look(one, solved);
        Kind b = look(other, solved);
        if (a.open > 0 && a.open == b.open) {
            return true;
        }
        if (a.open > 0) {
            solved.put(a.open, b);
            return !occurs(a.open, b, solved);
        }
        if (b.open > 0) {
            return unify(b, a, solved);
        }
        if (!a.isArrow() || !b.isArrow()) {
            return a.isArrow() == b.isArrow();
        }
        return unify(a.left, b.left, solved) && unify(a.right, b.right, solved);
    }

    private static boolean occurs(int open, Kind kind, Map<Integer, Kind> solved) {
        if (kind.open == open) {
            return true;
        }
        if (kind.open > 0) {
            return solved.containsKey(kind.open) && occurs(open, solved.get(kind.open), solved);
        }
        return kind.isArrow() && (occurs(open, kind.left, solved) || occurs(open, kind.right, solved));
    }

    private static Kind whole(Kind kind, Map<Integer, Kind> solved) {
        Kind now = look(kind, solved);
        return now.isArrow() ? new Kind(0, whole(now.left, solved), whole(now.right, solved)) : now;
    }

    /** Open ones are letters in the order in which they are come to, or stars if there are no letters. */
    private static String kindText(Kind kind, List<Integer> letters) {
        if (kind.isArrow()) {
            String left = kindText(kind.left, letters);
            return (kind.left.isArrow() ? "(" + left + ")" : left) + "->" + kindText(kind.right, letters);
        }
        if (kind.open == 0 || letters == null) {
            return "*";
        }
        if (!letters.contains(kind.open)) {
            letters.add(kind.open);
        }
        return "" + "abcdefghijklmnopqrstuvwxyz".charAt(Math.min(25, letters.indexOf(kind.open)));
    }

    // ---- types

    private List<Decl> takeTypes(int count) {
        List<Decl> asked = new Reader(takeTape()).types(count);
        for (Decl each : asked) {
            TreeSet<Integer> places = new TreeSet<>();
            addUntold(each, declared, places);
            throwFirst(3, places);
        }
        for (Decl each : asked) {
            checkLacks(each.bigs, declared);
        }
        for (Decl each : asked) {
            List<Equation> equations = new ArrayList<>();
            Kind kind = list(each.types.get(0), each, new HashMap<>(), declared, equations);
            each.kind = whole(kind, solve(equations));
        }
        return asked;
    }

    /** The type, or null if there is no room for it. */
    private Type withoutSynonyms(Type asked) {
        Type type = asked;
        for (int replaced = 0; replaced <= 300; replaced++) {
            if (type.nodes() > 200) {
                return null;
            }
            Type next = replaceFirst(type);
            if (next == null) {
                return type;
            }
            type = next;
        }
        return null;
    }

    /** The type with its first synonym replaced, or null if it has none. */
    private Type replaceFirst(Type type) {
        List<Type> ones = new ArrayList<>();
        Type head = type;
        while (head.sort.equals("apply")) {
            ones.add(0, head.right);
            head = head.left;
        }
        Decl named = head.sort.equals(BIG) ? typeNamed(head.name, declared) : null;
        if (named != null && named.word.equals("type")) {
            Type right = inPlace(named.types.get(0), named, ones);
            return applied(right, ones.subList(named.params.size(), ones.size()));
        }
        if (type.left == null) {
            return null;
        }
        Type left = replaceFirst(type.left);
        if (left != null) {
            return new Type(type.sort, null, left, type.right, 0);
        }
        Type right = type.right == null ? null : replaceFirst(type.right);
        return right == null ? null : new Type(type.sort, null, type.left, right, 0);
    }

    private static Type applied(Type head, List<Type> ones) {
        Type whole = head;
        for (Type one : ones) {
            whole = new Type("apply", null, whole, one, 0);
        }
        return whole;
    }

    private static Type inPlace(Type right, Decl named, List<Type> ones) {
        if (right.sort.equals(SMALL)) {
            return ones.get(named.param(right.name));
        }
        Type l = right.left == null ? null : inPlace(right.left, named, ones);
        Type r = right.right == null ? null : inPlace(right.right, named, ones);
        return new Type(right.sort, right.name, l, r, 0);
    }

    private static String typeText(Type type) {
        switch (type.sort) {
            case "apply":
                boolean bracketed = type.right.sort.equals("apply") || type.right.sort.equals("arrow");
                String x = typeText(type.right);
                return typeText(type.left) + " " + (bracketed ? "(" + x + ")" : x);
            case "arrow":
                String l = typeText(type.left);
                return (type.left.sort.equals("arrow") ? "(" + l + ")" : l) + "->" + typeText(type.right);
            case "list":
                return "[" + typeText(type.left) + "]";
            default:
                return type.name;
        }
    }
}
