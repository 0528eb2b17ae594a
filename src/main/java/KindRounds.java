import java.util.Arrays;

/** Kinds of types: see README.md for the calls, and DOC.md for what each of them promises. */
public final class KindRounds {
    private static final int NO_SUCH = -1;
    private static final int OUTSIDE = -2;
    private static final int NONE = -3;
    private static final int NO_ROOM = -4;
    private static final int FAULT_BASE = -10;

    private static final int MISFIT = 1;
    private static final int TOO_MUCH = 2;
    private static final int BAD_NAME = 3;
    private static final int RING = 4;
    private static final int LACK = 5;
    private static final int CLASH = 6;

    /** Sorts of tokens; a sign's sort is its first byte, so these stay below the first sign. */
    private static final int BAD = 0;
    private static final int END = 1;
    private static final int BIG = 2;
    private static final int SMALL = 3;
    private static final int WORD_DATA = 4;
    private static final int WORD_TYPE = 5;
    private static final int WORD_CLASS = 6;
    private static final int WORD_KIND = 7;
    private static final int COLONS = ':';
    private static final int ARROW = '-';
    private static final int LIST = '[';

    /** Sorts of what is declared, as told() tells them. */
    private static final int DATA = 0;
    private static final int SYNONYM = 1;
    private static final int CLASS = 2;

    /** Names are held as numbers, a byte after the other: this one is Int. */
    private static final long INT = 0x496e74L;

    private static final int NODES = 200;
    private static final int DECLS = 16;
    private static final int PARAMS = 3;
    private static final int CONS = 6;
    private static final int METHODS = 4;
    private static final int NESTS = 8;
    private static final int REPLACED = 300;
    private static final int SHOWN = 2000;
    private static final int STAR = 0;
    private static final int ASKED = -1;

    private final Tape tape;
    private final Fault fault;
    private final Kinds kinds;
    private final Text text;
    private final Mentions mentions;
    private final Row asked;
    private final Parser parser;
    private final Checker checker;
    private final Solver solver;
    private final Plainer plainer;
    private Line shown;
    private Line spare;

    public KindRounds() {
        tape = new Tape();
        fault = new Fault();
        kinds = new Kinds();
        text = new Text();
        mentions = new Mentions();
        asked = new Row();
        parser = new Parser(tape, text, mentions, kinds, fault);
        checker = new Checker(text, mentions, fault);
        solver = new Solver(text, mentions, kinds, fault);
        plainer = new Plainer(text);
        shown = new Line();
        spare = new Line();
    }

    public int feed(int a, int b, int c, int d, int e) {
        if (!tape.hasRoom()) {
            return NO_ROOM;
        }
        tape.append(a);
        tape.append(b);
        tape.append(c);
        tape.append(d);
        tape.append(e);
        return tape.length;
    }

    public int cut(int n) {
        if (n < 0 || n > tape.length) {
            return OUTSIDE;
        }
        int gone = tape.length - n;
        tape.length = n;
        return gone;
    }

    public int read() {
        fault.clear();
        mentions.clear();
        kinds.clear();
        text.clear();
        tape.scan();
        parser.parseText();
        tape.length = 0;
        checker.checkText();
        if (!fault.isThere()) {
            text.formGroups();
            solver.solveText();
        }
        if (fault.isThere()) {
            text.clear();
            return FAULT_BASE - fault.number;
        }
        return text.size;
    }

    public int place() {
        return fault.isThere() ? fault.spot : NONE;
    }

    public int side(int side) {
        if (side != 0 && side != 1) {
            return OUTSIDE;
        }
        if (fault.number != CLASH) {
            return NONE;
        }
        Line line = side == 0 ? fault.left : fault.right;
        if (line.size > SHOWN) {
            return NO_ROOM;
        }
        shown.copy(line);
        return shown.size;
    }

    public int out(int i) {
        return i >= 0 && i < shown.size ? shown.bytes[i] : NO_SUCH;
    }

    public int told(int i, int what) {
        if (!text.has(i)) {
            return NO_SUCH;
        }
        switch (what) {
            case 0:
                return text.sorts[i];
            case 1:
                return text.params[i];
            case 2:
                return text.groupOf[i];
            case 3:
                return text.spots[i];
            case 4:
                return text.items[i];
            case 5:
                return text.opens[i];
            default:
                return OUTSIDE;
        }
    }

    public int kindOf(int i, int j) {
        if (!text.has(i) || j < -1 || j >= text.params[i]) {
            return NO_SUCH;
        }
        return showKind(j < 0 ? text.kinds[i] : text.paramKinds[i * PARAMS + j]);
    }

    public int groups() {
        return text.groupCount;
    }

    public int member(int group, int k) {
        if (group < 0 || group >= text.groupCount || k < 0) {
            return NO_SUCH;
        }
        return text.findMember(group, k);
    }

    public int needs(int i, int j) {
        if (!text.has(i) || !text.has(j)) {
            return NO_SUCH;
        }
        return text.needMasks[i] >> j & 1;
    }

    public int kind() {
        if (!takeTypes(1)) {
            return FAULT_BASE - fault.number;
        }
        return showKind(solver.rootKind);
    }

    public int plain() {
        if (!takeTypes(1)) {
            return FAULT_BASE - fault.number;
        }
        if (!plainer.replaceAll(asked, 0)) {
            return NO_ROOM;
        }
        plainer.show(spare);
        swapLines();
        return shown.size;
    }

    public int same() {
        if (!takeTypes(2)) {
            return FAULT_BASE - fault.number;
        }
        if (!plainer.replaceAll(asked, 0)) {
            return NO_ROOM;
        }
        plainer.keep();
        if (!plainer.replaceAll(asked, 1)) {
            return NO_ROOM;
        }
        return plainer.isAsKept() ? 1 : 0;
    }

    /** Takes so many types from the tape into the asked row; true if they have no fault. */
    private boolean takeTypes(int types) {
        fault.clear();
        mentions.clear();
        asked.clear();
        kinds.dropAsked();
        tape.scan();
        parser.parseTypes(asked, types);
        tape.length = 0;
        checker.checkTypes();
        for (int term = 0; term < types && !fault.isThere(); term++) {
            solver.solveAsked(asked, term);
        }
        return !fault.isThere();
    }

    private int showKind(int kind) {
        spare.clear();
        kinds.show(kind, spare, false);
        if (spare.size > SHOWN) {
            return NO_ROOM;
        }
        swapLines();
        return shown.size;
    }

    private void swapLines() {
        Line line = shown;
        shown = spare;
        spare = line;
    }

    /** The bytes that were fed, and the tokens that they are. */
    private static final class Tape {
        private static final int ROOM = 1200;
        private static final int FED = 20;
        private static final int NAME_ROOM = 8;
        private static final String SIGNS = "=|()[]{};,*";
        private static final long DATA_NAME = 0x64617461L;
        private static final long TYPE_NAME = 0x74797065L;
        private static final long CLASS_NAME = 0x636c617373L;
        private static final long KIND_NAME = 0x6b696e64L;

        private final int[] bytes;
        private int length;
        private final int[] sorts;
        private final long[] names;
        private final int[] starts;
        private int count;
        private int at;

        private Tape() {
            bytes = new int[ROOM];
            sorts = new int[ROOM + 1];
            names = new long[ROOM + 1];
            starts = new int[ROOM + 1];
        }

        private boolean hasRoom() {
            return length + FED <= ROOM;
        }

        private void append(int four) {
            for (int shift = 24; shift >= 0 && length < ROOM; shift -= 8) {
                bytes[length] = four >>> shift & 255;
                length++;
            }
        }

        /** Finds all tokens ahead of the parser; END stands behind them. */
        private void scan() {
            count = 0;
            at = 0;
            int from = 0;
            for (int turn = 0; turn < ROOM && from < length; turn++) {
                int first = bytes[from];
                if (first == ' ' || first == '\n') {
                    from++;
                } else if (isBigLetter(first) || isSmallLetter(first)) {
                    from = scanName(from);
                } else {
                    from = scanSign(from);
                }
            }
            addToken(END, 0, length);
        }

        private int scanName(int from) {
            long name = 0;
            int end = from;
            for (; end < length && isNameByte(bytes[end]); end++) {
                name = name << 8 | bytes[end];
            }
            if (end - from > NAME_ROOM) {
                addToken(BAD, 0, from);
            } else {
                addToken(isBigLetter(bytes[from]) ? BIG : sortOfSmall(name), name, from);
            }
            return end;
        }

        private int scanSign(int from) {
            int first = bytes[from];
            int next = from + 1 < length ? bytes[from + 1] : 0;
            if (first == COLONS && next == ':' || first == ARROW && next == '>') {
                addToken(first, 0, from);
                return from + 2;
            }
            addToken(SIGNS.indexOf((char) first) >= 0 ? first : BAD, 0, from);
            return from + 1;
        }

        private void addToken(int sort, long name, int start) {
            if (count > ROOM) {
                return;
            }
            sorts[count] = sort;
            names[count] = name;
            starts[count] = start;
            count++;
        }

        private int sort() {
            return sorts[at];
        }

        private long name() {
            return names[at];
        }

        private int start() {
            return starts[at];
        }

        /** END is never stepped over, so that there is always a token to look at. */
        private void step() {
            if (at + 1 < count) {
                at++;
            }
        }

        private static int sortOfSmall(long name) {
            if (name == DATA_NAME) {
                return WORD_DATA;
            }
            if (name == TYPE_NAME) {
                return WORD_TYPE;
            }
            if (name == CLASS_NAME) {
                return WORD_CLASS;
            }
            return name == KIND_NAME ? WORD_KIND : SMALL;
        }

        private static boolean isBigLetter(int b) {
            return b >= 'A' && b <= 'Z';
        }

        private static boolean isSmallLetter(int b) {
            return b >= 'a' && b <= 'z';
        }

        private static boolean isNameByte(int b) {
            return isBigLetter(b) || isSmallLetter(b) || b >= '0' && b <= '9';
        }
    }

    /** Bytes to be shown. */
    private static final class Line {
        /** 200 nodes of a type with blanks and brackets come to less. */
        private static final int ROOM = 2400;

        private final byte[] bytes;
        private int size;

        private Line() {
            bytes = new byte[ROOM];
        }

        private void clear() {
            size = 0;
        }

        private void put(int b) {
            if (size < ROOM) {
                bytes[size] = (byte) b;
                size++;
            }
        }

        private void putArrow() {
            put('-');
            put('>');
        }

        private void putName(long name) {
            for (int shift = 56; shift >= 0; shift -= 8) {
                int b = (int) (name >>> shift) & 255;
                if (b != 0) {
                    put(b);
                }
            }
        }

        private void copy(Line from) {
            System.arraycopy(from.bytes, 0, bytes, 0, from.size);
            size = from.size;
        }
    }

    /** The fault of the latest call that used the tape; number 0 is none. */
    private static final class Fault {
        private int number;
        private int spot;
        private final Line left;
        private final Line right;

        private Fault() {
            left = new Line();
            right = new Line();
        }

        private void clear() {
            number = 0;
        }

        private boolean isThere() {
            return number != 0;
        }

        private void raise(int what, int where) {
            number = what;
            spot = where;
        }
    }

    /** All kinds: the star, arrows, and open ones that may become others by a link. */
    private static final class Kinds {
        /** The star, 400 told arrows, 7 for each declared, and 3 for each node of a text and of what is asked. */
        private static final int ROOM = 1 + 400 + 7 * DECLS + 3 * NODES + 3 * NODES;
        private static final int TURNS = 1000000;
        private static final int UNLINKED = -1;
        private static final int OPEN = -1;
        private static final int LETTERS = 26;

        private final int[] left;
        private final int[] right;
        private final int[] link;
        private final int[] mark;
        private final int[] trail;
        private final int[] stack;
        private int size;
        private int textSize;
        private int changes;
        private int top;
        private int lettered;

        private Kinds() {
            left = new int[ROOM];
            right = new int[ROOM];
            link = new int[ROOM];
            mark = new int[ROOM];
            trail = new int[ROOM];
            stack = new int[2 * ROOM + 8];
            link[STAR] = UNLINKED;
            size = 1;
            textSize = 1;
        }

        private void clear() {
            size = STAR + 1;
            textSize = size;
        }

        private int makeOpen() {
            if (size >= ROOM) {
                return STAR;
            }
            left[size] = OPEN;
            link[size] = UNLINKED;
            size++;
            return size - 1;
        }

        private int makeArrow(int from, int to) {
            if (size >= ROOM) {
                return STAR;
            }
            left[size] = from;
            right[size] = to;
            link[size] = UNLINKED;
            size++;
            return size - 1;
        }

        private int find(int kind) {
            int now = kind;
            for (int turn = 0; turn < ROOM && link[now] != UNLINKED; turn++) {
                now = link[now];
            }
            return now;
        }

        private boolean isOpen(int found) {
            return found != STAR && left[found] == OPEN;
        }

        private boolean isArrow(int found) {
            return found != STAR && left[found] != OPEN;
        }

        private void push(int item) {
            if (top < stack.length) {
                stack[top] = item;
                top++;
            }
        }

        private int pop() {
            if (top == 0) {
                return STAR;
            }
            top--;
            return stack[top];
        }

        /** Makes both the same, or changes nothing and answers false. */
        private boolean unify(int one, int other) {
            changes = 0;
            top = 0;
            push(one);
            push(other);
            boolean fits = true;
            for (int turn = 0; turn < TURNS && top > 0 && fits; turn++) {
                int a = find(pop());
                int b = find(pop());
                fits = merge(Math.min(a, b), Math.max(a, b));
            }
            if (fits && !hasRing(one)) {
                return true;
            }
            for (int i = 0; i < changes; i++) {
                link[trail[i]] = UNLINKED;
            }
            return false;
        }

        /** An arrow is linked to the older one, so that a text's kinds never hang on a question's. */
        private boolean merge(int older, int newer) {
            if (older == newer) {
                return true;
            }
            if (isOpen(newer)) {
                join(newer, older);
                return true;
            }
            if (isOpen(older)) {
                join(older, newer);
                return true;
            }
            if (!isArrow(older) || !isArrow(newer)) {
                return false;
            }
            join(newer, older);
            push(left[older]);
            push(left[newer]);
            push(right[older]);
            push(right[newer]);
            return true;
        }

        private void join(int from, int to) {
            link[from] = to;
            if (changes < ROOM) {
                trail[changes] = from;
                changes++;
            }
        }

        private void clearMarks() {
            Arrays.fill(mark, 0, size, 0);
        }

        /** Marks: 0 not seen, 1 entered, 2 left; a kind in which an entered one stands has no end. */
        private boolean hasRing(int kind) {
            clearMarks();
            top = 0;
            push(find(kind));
            for (int turn = 0; turn < TURNS && top > 0; turn++) {
                int now = pop();
                if (mark[now] == 1) {
                    mark[now] = 2;
                } else if (mark[now] == 0 && isArrow(now)) {
                    mark[now] = 1;
                    int from = find(left[now]);
                    int to = find(right[now]);
                    if (mark[from] == 1 || mark[to] == 1) {
                        return true;
                    }
                    push(now);
                    push(to);
                    push(from);
                }
            }
            return false;
        }

        /** Gives letters to what is open in the kind and has none yet; answers how many. */
        private int letter(int kind) {
            int before = lettered;
            top = 0;
            push(kind);
            for (int turn = 0; turn < TURNS && top > 0; turn++) {
                int now = find(pop());
                if (mark[now] != 0) {
                    continue;
                }
                mark[now] = 1;
                if (isOpen(now)) {
                    lettered++;
                    mark[now] = lettered;
                } else if (isArrow(now)) {
                    push(right[now]);
                    push(left[now]);
                }
            }
            return lettered - before;
        }

        private boolean hasOpen(int kind) {
            clearMarks();
            lettered = 0;
            return letter(kind) > 0;
        }

        private void showSides(int one, int other, Fault fault) {
            clearMarks();
            lettered = 0;
            letter(one);
            letter(other);
            fault.left.clear();
            fault.right.clear();
            show(one, fault.left, true);
            show(other, fault.right, true);
        }

        /** Stops behind the last byte that may be shown; an item is a kind, and whether its left side is done. */
        private void show(int kind, Line line, boolean letters) {
            top = 0;
            push(find(kind) << 1);
            for (int turn = 0; turn < TURNS && top > 0 && line.size <= SHOWN; turn++) {
                int item = pop();
                int now = item >> 1;
                if (!isArrow(now)) {
                    line.put(letters && isOpen(now) ? 'a' + Math.min(mark[now], LETTERS) - 1 : '*');
                    continue;
                }
                int from = find(left[now]);
                if ((item & 1) == 0) {
                    if (isArrow(from)) {
                        line.put('(');
                    }
                    push(item | 1);
                    push(from << 1);
                } else {
                    if (isArrow(from)) {
                        line.put(')');
                    }
                    line.putArrow();
                    push(find(right[now]) << 1);
                }
            }
        }

        /** What is still open from here on becomes a star, and belongs to the text. */
        private void closeGroup() {
            for (int kind = textSize; kind < size; kind++) {
                if (isOpen(kind) && link[kind] == UNLINKED) {
                    link[kind] = STAR;
                }
            }
            textSize = size;
        }

        /** What the question before made is not needed any more. */
        private void dropAsked() {
            size = textSize;
        }
    }

    /**
     * Types, node by node as they are read: a name and the ones behind it, a list and what it is of, an
     * arrow and both its sides. Each node has its count of nodes below it; a term is one whole type.
     */
    private static final class Row {
        private final int[] sorts;
        private final long[] names;
        private final int[] counts;
        private final int[] spots;
        private int size;
        private final int[] termStarts;
        private final int[] termOwners;
        private int terms;

        private Row() {
            sorts = new int[NODES];
            names = new long[NODES];
            counts = new int[NODES];
            spots = new int[NODES];
            termStarts = new int[NODES + 1];
            termOwners = new int[NODES + 1];
        }

        private void clear() {
            size = 0;
            terms = 0;
        }

        private boolean isFull() {
            return size >= NODES;
        }

        private boolean beginTerm(int owner) {
            if (terms > NODES) {
                return false;
            }
            termStarts[terms] = size;
            termOwners[terms] = owner;
            terms++;
            return true;
        }

        private int termEnd(int term) {
            return term + 1 < terms ? termStarts[term + 1] : size;
        }

        private int termOf(int owner) {
            for (int term = 0; term < terms; term++) {
                if (termOwners[term] == owner) {
                    return term;
                }
            }
            return 0;
        }

        private boolean add(int sort, long name, int count, int spot) {
            if (size >= NODES) {
                return false;
            }
            sorts[size] = sort;
            names[size] = name;
            counts[size] = count;
            spots[size] = spot;
            size++;
            return true;
        }

        /** The arrow comes ahead of its left side, which has been read by then. */
        private void insertArrow(int start) {
            int moved = size - start;
            if (isFull() || moved <= 0) {
                return;
            }
            System.arraycopy(sorts, start, sorts, start + 1, moved);
            System.arraycopy(names, start, names, start + 1, moved);
            System.arraycopy(counts, start, counts, start + 1, moved);
            System.arraycopy(spots, start, spots, start + 1, moved);
            sorts[start] = ARROW;
            names[start] = 0;
            counts[start] = 2;
            size++;
        }

        /** How many of the nodes below are no ones behind it, but sides of the arrow or what the list is of. */
        private int fixedOf(int node) {
            if (sorts[node] == ARROW) {
                return 2;
            }
            return sorts[node] == LIST ? 1 : 0;
        }

        private int endOf(int node) {
            int open = 1;
            int end = node;
            for (; end < size && open > 0; end++) {
                open += counts[end] - 1;
            }
            return end;
        }

        private boolean isLike(Row other) {
            if (size != other.size) {
                return false;
            }
            for (int i = 0; i < size; i++) {
                if (sorts[i] != other.sorts[i] || names[i] != other.names[i] || counts[i] != other.counts[i]) {
                    return false;
                }
            }
            return true;
        }
    }

    /** Every name of a text or a type that a fault may be at, from the left. */
    private static final class Mentions {
        private static final int ROOM = 600;
        private static final int OF_DECLARED = 0;
        private static final int OF_CON = 1;
        private static final int OF_METHOD = 2;
        private static final int OF_PARAM = 3;
        private static final int OF_KIND = 4;
        private static final int OF_BIG = 5;
        private static final int OF_SMALL = 6;

        private final int[] roles;
        private final long[] names;
        private final int[] spots;
        private final int[] owners;
        /** Of a BIG in a type the ones behind it, of what a decl kind tells the kind. */
        private final int[] values;
        private int size;

        private Mentions() {
            roles = new int[ROOM];
            names = new long[ROOM];
            spots = new int[ROOM];
            owners = new int[ROOM];
            values = new int[ROOM];
        }

        private void clear() {
            size = 0;
        }

        private void add(int role, int owner, Tape tape) {
            if (size < ROOM) {
                roles[size] = role;
                names[size] = tape.name();
                spots[size] = tape.start();
                owners[size] = owner;
                values[size] = 0;
                size++;
            }
        }

        private void setValue(int mention, int value) {
            if (mention < size) {
                values[mention] = value;
            }
        }

        /** Whether the same name was told before; parameters are told for their owner alone. */
        private boolean wasTold(int mention) {
            for (int i = 0; i < mention; i++) {
                boolean alike = roles[i] == roles[mention] && names[i] == names[mention];
                if (alike && (roles[i] != OF_PARAM || owners[i] == owners[mention])) {
                    return true;
                }
            }
            return false;
        }
    }

    /** What is declared, with its groups and kinds. */
    private static final class Text {
        private int size;
        private final int[] sorts;
        private final long[] names;
        private final int[] spots;
        private final int[] params;
        private final long[] paramNames;
        private final int[] items;
        private final int[] opens;
        private final int[] groupOf;
        private final int[] nameMasks;
        private final int[] needMasks;
        private final int[] groupMasks;
        private int groupCount;
        private final int[] kinds;
        private final int[] paramKinds;
        private final int[] resultKinds;
        private final Row row;

        private Text() {
            sorts = new int[DECLS];
            names = new long[DECLS];
            spots = new int[DECLS];
            params = new int[DECLS];
            paramNames = new long[DECLS * PARAMS];
            items = new int[DECLS];
            opens = new int[DECLS];
            groupOf = new int[DECLS];
            nameMasks = new int[DECLS];
            needMasks = new int[DECLS];
            groupMasks = new int[DECLS];
            kinds = new int[DECLS];
            paramKinds = new int[DECLS * PARAMS];
            resultKinds = new int[DECLS];
            row = new Row();
        }

        private void clear() {
            size = 0;
            groupCount = 0;
            row.clear();
        }

        private boolean has(int i) {
            return i >= 0 && i < size;
        }

        private void declare(int sort, long name, int spot) {
            if (size < DECLS) {
                sorts[size] = sort;
                names[size] = name;
                spots[size] = spot;
                params[size] = 0;
                items[size] = 0;
                opens[size] = 0;
                nameMasks[size] = 0;
                size++;
            }
        }

        private void addParam(int decl, long name) {
            if (params[decl] < PARAMS) {
                paramNames[decl * PARAMS + params[decl]] = name;
                params[decl]++;
            }
        }

        /** The data or type of this name, or -1; classes can't stand in types. */
        private int findType(long name) {
            for (int i = 0; i < size; i++) {
                if (names[i] == name && sorts[i] != CLASS) {
                    return i;
                }
            }
            return -1;
        }

        private int findDeclared(long name) {
            for (int i = 0; i < size; i++) {
                if (names[i] == name) {
                    return i;
                }
            }
            return -1;
        }

        private int findParam(int decl, long name) {
            for (int j = 0; j < params[decl]; j++) {
                if (paramNames[decl * PARAMS + j] == name) {
                    return j;
                }
            }
            return -1;
        }

        private int findSynonym(int sort, long name) {
            int decl = sort == BIG ? findType(name) : -1;
            return decl >= 0 && sorts[decl] == SYNONYM ? decl : -1;
        }

        /** Adds to each mask what those in it reach, until nothing is missing. */
        private void closeMasks(int[] masks) {
            for (int over = 0; over < size; over++) {
                for (int i = 0; i < size; i++) {
                    if ((masks[i] >> over & 1) != 0) {
                        masks[i] |= masks[over];
                    }
                }
            }
        }

        private void formGroups() {
            System.arraycopy(nameMasks, 0, needMasks, 0, size);
            closeMasks(needMasks);
            int placed = 0;
            for (int turn = 0; turn < size; turn++) {
                int next = nextOf(placed);
                if (next < 0) {
                    return;
                }
                int own = ringOf(next);
                for (int i = 0; i < size; i++) {
                    if ((own >> i & 1) != 0) {
                        groupOf[i] = groupCount;
                    }
                }
                groupMasks[groupCount] = own;
                groupCount++;
                placed |= own;
            }
        }

        private int nextOf(int placed) {
            for (int i = 0; i < size; i++) {
                boolean waits = (placed >> i & 1) == 0;
                if (waits && (needMasks[i] & ~ringOf(i) & ~placed) == 0) {
                    return i;
                }
            }
            return -1;
        }

        private int ringOf(int i) {
            int ring = 1 << i;
            for (int j = 0; j < size; j++) {
                if ((needMasks[i] >> j & 1) != 0 && (needMasks[j] >> i & 1) != 0) {
                    ring |= 1 << j;
                }
            }
            return ring;
        }

        private int findMember(int group, int k) {
            int before = 0;
            for (int i = 0; i < size; i++) {
                if (groupOf[i] == group) {
                    if (before == k) {
                        return i;
                    }
                    before++;
                }
            }
            return NO_SUCH;
        }
    }

    /** Reads tokens from the left into a row and into mentions; each method answers whether it fits. */
    private static final class Parser {
        private final Tape tape;
        private final Text text;
        private final Mentions mentions;
        private final Kinds kinds;
        private final Fault fault;
        private Row row;
        private int owner;

        private Parser(Tape tape, Text text, Mentions mentions, Kinds kinds, Fault fault) {
            this.tape = tape;
            this.text = text;
            this.mentions = mentions;
            this.kinds = kinds;
            this.fault = fault;
            row = text.row;
        }

        private void parseText() {
            row = text.row;
            boolean fits = true;
            for (int turn = 0; turn < Tape.ROOM && fits && tape.sort() != END; turn++) {
                int word = tape.sort();
                switch (word) {
                    case WORD_DATA:
                        fits = parseHead(DATA) && parseParams() && expect('=') && parseCons();
                        break;
                    case WORD_TYPE:
                        fits = parseHead(SYNONYM) && parseParams() && expect('=')
                            && row.beginTerm(owner) && parseType(0);
                        break;
                    case WORD_CLASS:
                        fits = parseHead(CLASS) && parseParam() && expect('{') && parseMethods() && expect('}');
                        break;
                    case WORD_KIND:
                        fits = parseTold();
                        break;
                    default:
                        fits = misfit();
                        break;
                }
                fits = fits && expect(';');
            }
        }

        private void parseTypes(Row into, int types) {
            row = into;
            owner = ASKED;
            boolean fits = row.beginTerm(owner) && parseType(0);
            for (int more = 1; more < types && fits; more++) {
                fits = expect(',') && row.beginTerm(owner) && parseType(0);
            }
            if (fits && tape.sort() != END) {
                misfit();
            }
        }

        private boolean misfit() {
            fault.raise(MISFIT, tape.start());
            return false;
        }

        private boolean tooMuch() {
            fault.raise(TOO_MUCH, tape.start());
            return false;
        }

        private boolean expect(int sort) {
            if (tape.sort() != sort) {
                fault.raise(MISFIT, tape.start());
                return false;
            }
            tape.step();
            return true;
        }

        private boolean parseHead(int sort) {
            tape.step();
            if (tape.sort() != BIG) {
                return misfit();
            }
            if (text.size >= DECLS) {
                return tooMuch();
            }
            owner = text.size;
            text.declare(sort, tape.name(), tape.start());
            mentions.add(Mentions.OF_DECLARED, owner, tape);
            tape.step();
            return true;
        }

        private boolean parseParams() {
            boolean fits = true;
            for (int turn = 0; turn <= PARAMS && fits && tape.sort() == SMALL; turn++) {
                fits = parseParam();
            }
            return fits;
        }

        private boolean parseParam() {
            if (tape.sort() != SMALL) {
                return misfit();
            }
            if (text.params[owner] >= PARAMS) {
                return tooMuch();
            }
            text.addParam(owner, tape.name());
            mentions.add(Mentions.OF_PARAM, owner, tape);
            tape.step();
            return true;
        }

        private boolean parseCons() {
            for (int con = 0; con <= CONS; con++) {
                if (tape.sort() != BIG) {
                    return misfit();
                }
                if (con == CONS) {
                    return tooMuch();
                }
                text.items[owner]++;
                mentions.add(Mentions.OF_CON, owner, tape);
                tape.step();
                for (int turn = 0; turn <= NODES && startsOne(); turn++) {
                    if (!row.beginTerm(owner) || !parseOne(0)) {
                        return false;
                    }
                }
                if (tape.sort() != '|') {
                    return true;
                }
                tape.step();
            }
            return false;
        }

        private boolean parseMethods() {
            for (int method = 0; method <= METHODS && tape.sort() == SMALL; method++) {
                if (method == METHODS) {
                    return tooMuch();
                }
                text.items[owner]++;
                mentions.add(Mentions.OF_METHOD, owner, tape);
                tape.step();
                boolean fits = expect(COLONS) && row.beginTerm(owner) && parseType(0) && expect(';');
                if (!fits) {
                    return false;
                }
            }
            return true;
        }

        private boolean parseTold() {
            tape.step();
            if (tape.sort() != BIG) {
                return misfit();
            }
            int mention = mentions.size;
            mentions.add(Mentions.OF_KIND, ASKED, tape);
            tape.step();
            if (!expect(COLONS)) {
                return false;
            }
            int kind = parseKind(0);
            mentions.setValue(mention, kind);
            return kind >= 0;
        }

        /** The kind that was read, or -1; an arrow's right side is put in when it has been read. */
        private int parseKind(int depth) {
            int whole = -1;
            int last = -1;
            for (int turn = 0; turn < Tape.ROOM; turn++) {
                int now = parsePart(depth);
                if (now < 0) {
                    return -1;
                }
                boolean more = tape.sort() == ARROW;
                if (more) {
                    tape.step();
                    now = kinds.makeArrow(now, STAR);
                }
                if (last >= 0) {
                    kinds.right[last] = now;
                } else {
                    whole = now;
                }
                if (!more) {
                    return whole;
                }
                last = now;
            }
            return -1;
        }

        private int parsePart(int depth) {
            if (tape.sort() == '*') {
                tape.step();
                return STAR;
            }
            boolean fits = tape.sort() == '(' ? depth < NESTS || tooMuch() : misfit();
            if (!fits) {
                return -1;
            }
            tape.step();
            int kind = parseKind(depth + 1);
            return kind >= 0 && expect(')') ? kind : -1;
        }

        private boolean parseType(int depth) {
            for (int turn = 0; turn <= NODES; turn++) {
                int start = row.size;
                if (!parseSome(depth)) {
                    return false;
                }
                if (tape.sort() != ARROW) {
                    return true;
                }
                if (row.isFull()) {
                    return tooMuch();
                }
                row.insertArrow(start);
                tape.step();
            }
            return false;
        }

        private boolean parseSome(int depth) {
            int head = row.size;
            int mention = mentions.size;
            boolean bigFirst = tape.sort() == BIG;
            if (!parseOne(depth)) {
                return false;
            }
            int behind = 0;
            for (int turn = 0; turn <= NODES && startsOne(); turn++) {
                if (!parseOne(depth)) {
                    return false;
                }
                behind++;
            }
            row.counts[head] += behind;
            if (bigFirst) {
                mentions.setValue(mention, behind);
            }
            return true;
        }

        private boolean startsOne() {
            int sort = tape.sort();
            return sort == BIG || sort == SMALL || sort == '(' || sort == LIST;
        }

        private boolean parseOne(int depth) {
            int sort = tape.sort();
            int start = tape.start();
            if (sort == BIG || sort == SMALL) {
                if (!row.add(sort, tape.name(), 0, start)) {
                    return tooMuch();
                }
                mentions.add(sort == BIG ? Mentions.OF_BIG : Mentions.OF_SMALL, owner, tape);
                tape.step();
                return true;
            }
            if (sort != '(' && sort != LIST) {
                return misfit();
            }
            if (depth >= NESTS) {
                return tooMuch();
            }
            int first = row.size;
            if (sort == LIST && !row.add(LIST, 0, 1, start)) {
                return tooMuch();
            }
            tape.step();
            if (!parseType(depth + 1)) {
                return false;
            }
            row.spots[first] = start;
            return expect(sort == LIST ? ']' : ')');
        }
    }

    /** Finds the faults 3, 4 and 5 among the mentions. */
    private static final class Checker {
        private final Text text;
        private final Mentions mentions;
        private final Fault fault;
        private final int[] ringMasks;

        private Checker(Text text, Mentions mentions, Fault fault) {
            this.text = text;
            this.mentions = mentions;
            this.fault = fault;
            ringMasks = new int[DECLS];
        }

        private void checkText() {
            checkNames();
            if (!fault.isThere()) {
                noteNames();
                checkRings();
            }
            checkLacks();
        }

        private void checkTypes() {
            checkNames();
            checkLacks();
        }

        private void checkNames() {
            for (int m = 0; m < mentions.size && !fault.isThere(); m++) {
                if (isBadName(m)) {
                    fault.raise(BAD_NAME, mentions.spots[m]);
                }
            }
        }

        private boolean isBadName(int m) {
            long name = mentions.names[m];
            switch (mentions.roles[m]) {
                case Mentions.OF_DECLARED:
                    return name == INT || mentions.wasTold(m);
                case Mentions.OF_KIND:
                    return text.findDeclared(name) < 0 || mentions.wasTold(m);
                case Mentions.OF_BIG:
                    return name != INT && text.findType(name) < 0;
                case Mentions.OF_SMALL:
                    return isStrange(mentions.owners[m], name);
                default:
                    return mentions.wasTold(m);
            }
        }

        /** Types that are asked, and methods, may have names of their own. */
        private boolean isStrange(int owner, long name) {
            return text.has(owner) && text.sorts[owner] != CLASS && text.findParam(owner, name) < 0;
        }

        private void noteNames() {
            for (int m = 0; m < mentions.size; m++) {
                int owner = mentions.owners[m];
                int decl = mentions.roles[m] == Mentions.OF_BIG ? text.findType(mentions.names[m]) : -1;
                if (decl >= 0 && text.has(owner)) {
                    text.nameMasks[owner] |= 1 << decl;
                }
            }
        }

        private void checkRings() {
            int synonyms = 0;
            for (int i = 0; i < text.size; i++) {
                synonyms |= text.sorts[i] == SYNONYM ? 1 << i : 0;
            }
            for (int i = 0; i < text.size; i++) {
                ringMasks[i] = text.sorts[i] == SYNONYM ? text.nameMasks[i] & synonyms : 0;
            }
            text.closeMasks(ringMasks);
            for (int i = 0; i < text.size && !fault.isThere(); i++) {
                if ((ringMasks[i] >> i & 1) != 0) {
                    fault.raise(RING, text.spots[i]);
                }
            }
        }

        private void checkLacks() {
            for (int m = 0; m < mentions.size && !fault.isThere(); m++) {
                int sort = mentions.roles[m] == Mentions.OF_BIG ? BIG : SMALL;
                int synonym = text.findSynonym(sort, mentions.names[m]);
                if (synonym >= 0 && mentions.values[m] < text.params[synonym]) {
                    fault.raise(LACK, mentions.spots[m]);
                }
            }
        }
    }

    /** Lists the equations of a group or a type in their order, and makes them true one by one. */
    private static final class Solver {
        /** Each node has one at most, and so has each decl kind. */
        private static final int ROOM = NODES + DECLS;

        private final Text text;
        private final Mentions mentions;
        private final Kinds kinds;
        private final Fault fault;
        private final int[] lefts;
        private final int[] rights;
        private final int[] spots;
        private int equations;
        private final int[] frameNodes;
        private final int[] frameKinds;
        private final int[] frameDone;
        private int depth;
        private final long[] freeNames;
        private final int[] freeKinds;
        private int frees;
        private int rootKind;

        private Solver(Text text, Mentions mentions, Kinds kinds, Fault fault) {
            this.text = text;
            this.mentions = mentions;
            this.kinds = kinds;
            this.fault = fault;
            lefts = new int[ROOM];
            rights = new int[ROOM];
            spots = new int[ROOM];
            frameNodes = new int[NODES];
            frameKinds = new int[NODES];
            frameDone = new int[NODES];
            freeNames = new long[NODES];
            freeKinds = new int[NODES];
        }

        private void solveText() {
            for (int group = 0; group < text.groupCount && !fault.isThere(); group++) {
                equations = 0;
                int members = text.groupMasks[group];
                makeKinds(members);
                listTold(members);
                listMembers(members);
                solveListed();
                countOpens(members);
                kinds.closeGroup();
            }
        }

        private void solveAsked(Row row, int term) {
            equations = 0;
            listTerm(row, term);
            solveListed();
        }

        private void solveListed() {
            for (int i = 0; i < equations && !fault.isThere(); i++) {
                if (!kinds.unify(lefts[i], rights[i])) {
                    fault.raise(CLASH, spots[i]);
                    kinds.showSides(lefts[i], rights[i], fault);
                }
            }
        }

        private void makeKinds(int members) {
            for (int decl = 0; decl < text.size; decl++) {
                if ((members >> decl & 1) == 0) {
                    continue;
                }
                for (int j = 0; j < text.params[decl]; j++) {
                    text.paramKinds[decl * PARAMS + j] = kinds.makeOpen();
                }
                text.resultKinds[decl] = text.sorts[decl] == SYNONYM ? kinds.makeOpen() : STAR;
                text.kinds[decl] = wholeKind(decl);
            }
        }

        private int wholeKind(int decl) {
            int first = decl * PARAMS;
            if (text.sorts[decl] == CLASS) {
                return text.paramKinds[first];
            }
            int whole = text.resultKinds[decl];
            for (int j = text.params[decl] - 1; j >= 0; j--) {
                whole = kinds.makeArrow(text.paramKinds[first + j], whole);
            }
            return whole;
        }

        private void countOpens(int members) {
            for (int decl = 0; decl < text.size; decl++) {
                for (int j = 0; j < text.params[decl] && (members >> decl & 1) != 0; j++) {
                    if (kinds.hasOpen(text.paramKinds[decl * PARAMS + j])) {
                        text.opens[decl]++;
                    }
                }
            }
        }

        private void listTold(int members) {
            for (int m = 0; m < mentions.size; m++) {
                int decl = mentions.roles[m] == Mentions.OF_KIND ? text.findDeclared(mentions.names[m]) : -1;
                if (decl >= 0 && (members >> decl & 1) != 0) {
                    equate(text.kinds[decl], mentions.values[m], mentions.spots[m]);
                }
            }
        }

        /** Terms stand in the row as they were read, which is by numbers and from the left. */
        private void listMembers(int members) {
            Row row = text.row;
            for (int term = 0; term < row.terms; term++) {
                int decl = row.termOwners[term];
                if (text.has(decl) && (members >> decl & 1) != 0) {
                    listTerm(row, term);
                    equate(rootKind, text.resultKinds[decl], row.spots[row.termStarts[term]]);
                }
            }
        }

        private void equate(int left, int right, int spot) {
            if (equations < ROOM) {
                lefts[equations] = left;
                rights[equations] = right;
                spots[equations] = spot;
                equations++;
            }
        }

        /** A frame is a node whose nodes below have not all been come to; names that are free live for a term. */
        private void listTerm(Row row, int term) {
            frees = 0;
            depth = 0;
            int owner = row.termOwners[term];
            int end = row.termEnd(term);
            for (int node = row.termStarts[term]; node < end && depth < NODES; node++) {
                frameNodes[depth] = node;
                frameKinds[depth] = startKind(row, node, owner);
                frameDone[depth] = 0;
                depth++;
                closeFrames(row);
            }
        }

        private void closeFrames(Row row) {
            for (int turn = 0; turn < NODES && depth > 0; turn++) {
                int node = frameNodes[depth - 1];
                if (frameDone[depth - 1] < row.counts[node]) {
                    return;
                }
                depth--;
                if (depth == 0) {
                    rootKind = frameKinds[0];
                } else {
                    joinFrame(row, depth - 1, frameKinds[depth], row.spots[node]);
                }
            }
        }

        private void joinFrame(Row row, int frame, int below, int spot) {
            if (frameDone[frame] < row.fixedOf(frameNodes[frame])) {
                equate(below, STAR, spot);
            } else {
                int applied = kinds.makeOpen();
                equate(frameKinds[frame], kinds.makeArrow(below, applied), spot);
                frameKinds[frame] = applied;
            }
            frameDone[frame]++;
        }

        private int startKind(Row row, int node, int owner) {
            long name = row.names[node];
            if (row.sorts[node] == BIG) {
                int decl = text.findType(name);
                return decl < 0 ? STAR : text.kinds[decl];
            }
            if (row.sorts[node] != SMALL) {
                return STAR;
            }
            int param = text.has(owner) ? text.findParam(owner, name) : -1;
            return param < 0 ? freeKind(name) : text.paramKinds[owner * PARAMS + param];
        }

        private int freeKind(long name) {
            for (int i = 0; i < frees; i++) {
                if (freeNames[i] == name) {
                    return freeKinds[i];
                }
            }
            int kind = kinds.makeOpen();
            if (frees < NODES) {
                freeNames[frees] = name;
                freeKinds[frees] = kind;
                frees++;
            }
            return kind;
        }
    }

    /** Replaces synonyms in a type, and shows what it comes to. */
    private static final class Plainer {
        private final Text text;
        private Row now;
        private Row next;
        private Row kept;
        private final int[] argStarts;
        private final int[] frameNodes;
        private final int[] frameDone;
        private int depth;
        private boolean fits;

        private Plainer(Text text) {
            this.text = text;
            now = new Row();
            next = new Row();
            kept = new Row();
            argStarts = new int[PARAMS + 1];
            frameNodes = new int[NODES];
            frameDone = new int[NODES];
        }

        /** True if there was room for all on the way; nodes ahead of the one replaced never change again. */
        private boolean replaceAll(Row asked, int term) {
            now.clear();
            fits = true;
            copyNodes(asked, asked.termStarts[term], asked.termEnd(term), now);
            int replaced = 0;
            int node = 0;
            for (int turn = 0; turn <= NODES + REPLACED && node < now.size; turn++) {
                int decl = text.findSynonym(now.sorts[node], now.names[node]);
                if (decl < 0) {
                    node++;
                    continue;
                }
                if (replaced == REPLACED) {
                    return false;
                }
                replaced++;
                replace(node, decl);
                if (!fits) {
                    return false;
                }
            }
            return true;
        }

        private void replace(int node, int decl) {
            int params = text.params[decl];
            argStarts[0] = node + 1;
            for (int j = 0; j < params; j++) {
                argStarts[j + 1] = now.endOf(argStarts[j]);
            }
            next.clear();
            copyNodes(now, 0, node, next);
            int first = next.size;
            copyRightSide(decl);
            if (first < next.size) {
                next.counts[first] += now.counts[node] - params;
            }
            copyNodes(now, argStarts[params], now.size, next);
            Row row = now;
            now = next;
            next = row;
        }

        private void copyRightSide(int decl) {
            Row row = text.row;
            int term = row.termOf(decl);
            int end = row.termEnd(term);
            for (int i = row.termStarts[term]; i < end; i++) {
                int param = row.sorts[i] == SMALL ? text.findParam(decl, row.names[i]) : -1;
                if (param < 0) {
                    copyNodes(row, i, i + 1, next);
                    continue;
                }
                int first = next.size;
                copyNodes(now, argStarts[param], argStarts[param + 1], next);
                if (first < next.size) {
                    next.counts[first] += row.counts[i];
                }
            }
        }

        private void copyNodes(Row from, int start, int end, Row to) {
            for (int i = start; i < end && fits; i++) {
                fits = to.add(from.sorts[i], from.names[i], from.counts[i], 0);
            }
        }

        private void keep() {
            Row row = kept;
            kept = now;
            now = row;
        }

        private boolean isAsKept() {
            return now.isLike(kept);
        }

        private void show(Line line) {
            line.clear();
            depth = 0;
            for (int node = 0; node < now.size && depth < NODES; node++) {
                beginNode(node, line);
                frameNodes[depth] = node;
                frameDone[depth] = 0;
                depth++;
                endNodes(line);
            }
        }

        private void beginNode(int node, Line line) {
            if (depth > 0) {
                int above = frameNodes[depth - 1];
                int done = frameDone[depth - 1];
                if (done >= now.fixedOf(above)) {
                    line.put(' ');
                } else if (done == 1) {
                    line.putArrow();
                }
            }
            if (isWrapped(node, depth - 1)) {
                line.put('(');
            }
            if (now.sorts[node] == LIST) {
                line.put('[');
            }
            line.putName(now.names[node]);
        }

        private void endNodes(Line line) {
            for (int turn = 0; turn < NODES && depth > 0; turn++) {
                int node = frameNodes[depth - 1];
                if (now.sorts[node] == LIST && frameDone[depth - 1] == 1) {
                    line.put(']');
                }
                if (frameDone[depth - 1] < now.counts[node]) {
                    return;
                }
                depth--;
                if (isWrapped(node, depth - 1)) {
                    line.put(')');
                }
                if (depth > 0) {
                    frameDone[depth - 1]++;
                }
            }
        }

        /** Arrows go into brackets left of an arrow and as a one, names with ones behind them as a one. */
        private boolean isWrapped(int node, int frame) {
            if (frame < 0) {
                return false;
            }
            int above = frameNodes[frame];
            if (frameDone[frame] >= now.fixedOf(above)) {
                return now.counts[node] > now.fixedOf(node) || now.sorts[node] == ARROW;
            }
            return now.sorts[above] == ARROW && frameDone[frame] == 0 && now.sorts[node] == ARROW;
        }
    }
}
