import java.util.Arrays;
import java.util.List;

/** Part 1 of the document, sentence by sentence: what may stand behind what. */
public final class GrammarSentencesTest {
    /** One of each sort of tokens, the end, a byte that begins none, and a name that is too long. */
    private static final String[] TOKENS = {"data", "type", "class", "kind", "T", "a", "=", "|", "(", ")", "[", "]",
        "{", "}", ";", ",", "*", "::", "->", "", "?", "Toolong89", "toolong89"};
    private static final String ONES = "T a ( [";
    private static final String DECLS = "data type class kind END";

    public static void main(String[] args) {
        texts();
        datas();
        cons();
        synonyms();
        classes();
        kindDecls();
        types();
        somes();
        ones();
        kinds();
        askedTypes();
        askedPairs();
        declared();
        parameters();
        Due.end();
    }

    /** Behind this start, these tokens can stand, and no others can. */
    private static void behind(String start, String tokens) {
        Due d = new Due();
        for (String token : TOKENS) {
            String text = start + token;
            int answer = d.read(text);
            isMisfit(text, answer, d.x.place(), start, tokens, token);
        }
    }

    private static void behindInType(String start, String tokens) {
        Due d = new Due();
        for (String token : TOKENS) {
            String text = start + token;
            int answer = d.kind(text);
            isMisfit("kind " + text, answer, d.x.place(), start, tokens, token);
            answer = d.plain(text);
            isMisfit("plain " + text, answer, d.x.place(), start, tokens, token);
        }
    }

    private static void behindInPair(String start, String tokens) {
        Due d = new Due();
        for (String token : TOKENS) {
            String text = start + token;
            int answer = d.same(text);
            isMisfit("same " + text, answer, d.x.place(), start, tokens, token);
        }
    }

    private static void isMisfit(String text, int answer, int place, String start, String tokens, String token) {
        List<String> allowed = Arrays.asList(tokens.split(" "));
        boolean stands = allowed.contains(token.isEmpty() ? "END" : token);
        boolean misfit = answer == -11 && place == start.length();
        Due.is("can't stand in '" + text + "'", misfit ? 1 : 0, stands ? 0 : 1);
    }

    private static void texts() {
        Due.sentence("text: { decl ';' }");
        behind("", DECLS);
        behind(" \n", DECLS);
        behind("data T = A ;", DECLS);
        behind("type S = Int ;", DECLS);
        behind("class C a { } ;", DECLS);
        behind("kind T :: * ;", DECLS);
        Due d = new Due();
        d.good(0, "");
        d.good(3, "data T=A;type S=T;class C a{};kind T::*;");
        d.fault(1, "data T=A^");
        d.fault(1, "data T=A;^;");
        d.fault(1, "data T=A ^data U=B;");
    }

    private static void datas() {
        Due.sentence("'data' BIG { SMALL } '=' con { '|' con }");
        behind("data ", "T");
        behind("data T ", "a =");
        behind("data T a ", "a =");
        behind("data T a b c ", "a =");
        behind("data T = ", "T");
        behind("data T a b c = ", "T");
        behind("data T = A ", ONES + " | ;");
        behind("data T = A | ", "T");
        behind("data T = A | B ", ONES + " | ;");
        Due d = new Due();
        d.good(1, "data T=A;");
        d.good(1, "data T a b c=A|B|C;");
    }

    private static void cons() {
        Due.sentence("con: BIG { one }");
        behind("data T = A Int ", ONES + " | ;");
        behind("data T a = A a ", ONES + " | ;");
        behind("data T = A ( Int ) ", ONES + " | ;");
        behind("data T = A [ Int ] ", ONES + " | ;");
        Due d = new Due();
        d.good(1, "data T a=A Int a(a)[a](T a)|B;");
        d.fault(1, "data T=A Int ^-> Int;");
    }

    private static void synonyms() {
        Due.sentence("'type' BIG { SMALL } '=' type");
        behind("type ", "T");
        behind("type T ", "a =");
        behind("type T a ", "a =");
        behind("type T = ", ONES);
        behind("type T = Int ", ONES + " -> ;");
        Due d = new Due();
        d.good(1, "type S=Int;");
        d.good(1, "type S a b c=a->b->c;");
        d.fault(1, "type S=Int ^| Int;");
    }

    private static void classes() {
        Due.sentence("'class' BIG SMALL '{' { SMALL '::' type ';' } '}'");
        behind("class ", "T");
        behind("class C ", "a");
        behind("class C a ", "{");
        behind("class C a { ", "a }");
        behind("class C a { m ", "::");
        behind("class C a { m :: ", ONES);
        behind("class C a { m :: a ", ONES + " -> ;");
        behind("class C a { m :: a ; ", "a }");
        behind("class C a { } ", ";");
        behind("class C a { m :: a ; } ", ";");
        Due d = new Due();
        d.good(1, "class C a{};");
        d.good(1, "class C a{m::a;n::a;};");
        d.fault(1, "class C ^{};");
        d.fault(1, "class C a ^b{};");
        d.fault(1, "class C a{m::a^};");
    }

    private static void kindDecls() {
        Due.sentence("'kind' BIG '::' kind");
        behind("kind ", "T");
        behind("kind T ", "::");
        behind("kind T :: ", "* (");
        behind("kind T :: * ", "-> ;");
        Due d = new Due();
        d.good(1, "kind T::*;data T=A;");
        d.fault(1, "kind T ^a::*;");
        d.fault(1, "kind T^=*;");
    }

    private static void types() {
        Due.sentence("type: some [ '->' type ]");
        behind("type T = Int -> ", ONES);
        behind("type T = Int -> Int ", ONES + " -> ;");
        behind("type T = Int -> Int -> ", ONES);
        Due d = new Due();
        d.plainIs("a -> b -> c", "a->b->c");
        d.plainIs("a -> (b -> c)", "a->b->c");
        d.plainIs("(a -> b) -> c", "(a->b)->c");
        d.plainIs("f a -> g b", "f a->g b");
    }

    private static void somes() {
        Due.sentence("some: one { one }");
        behind("type T = Int a ", ONES + " -> ;");
        behind("type T = Int ( a ) ", ONES + " -> ;");
        behind("type T = Int [ a ] ", ONES + " -> ;");
        Due d = new Due();
        d.plainIs("f a (b) [c]", "f a b [c]");
    }

    private static void ones() {
        Due.sentence("one: BIG | SMALL | '(' type ')' | '[' type ']'");
        behind("type T = ( ", ONES);
        behind("type T = [ ", ONES);
        behind("type T = ( a ", ONES + " -> )");
        behind("type T = [ a ", ONES + " -> ]");
        behind("type T = ( a -> ", ONES);
        behind("type T = [ a -> b ", ONES + " -> ]");
        behind("type T = ( [ a ] ", ONES + " -> )");
        behind("type T = [ ( a ) ", ONES + " -> ]");
        behind("type T = ( a ) ", ONES + " -> ;");
        behind("type T = [ a ] ", ONES + " -> ;");
        behind("data T = A ( a ", ONES + " -> )");
        behind("class C a { m :: ( a ) ", ONES + " -> ;");
        Due d = new Due();
        d.fault(1, "type T=(^);");
        d.fault(1, "type T=[^];");
        d.fault(1, "type T=(Int^];");
        d.fault(1, "type T=[Int^);");
    }

    private static void kinds() {
        Due.sentence("kind: part [ '->' kind ] part: '*' | '(' kind ')'");
        behind("kind T :: * -> ", "* (");
        behind("kind T :: * -> * ", "-> ;");
        behind("kind T :: ( ", "* (");
        behind("kind T :: ( * ", "-> )");
        behind("kind T :: ( * -> ", "* (");
        behind("kind T :: ( * -> * ", "-> )");
        behind("kind T :: ( * ) ", "-> ;");
        behind("kind T :: ( ( * ) ", "-> )");
        Due d = new Due();
        d.good(1, "kind T::*->(*->*)->((*))->*;data T a b c=A;");
        d.declaredKindIs(0, -1, "*->(*->*)->*->*");
        d.good(1, "kind T::(*->*)->*->*;data T a b=A;");
        d.declaredKindIs(0, 0, "*->*");
        d.declaredKindIs(0, 1, "*");
    }

    private static void askedTypes() {
        Due.sentence("TYPES on THE TAPE (closed by its end)");
        behindInType("", ONES);
        behindInType("Int ", ONES + " -> END");
        behindInType("Int -> ", ONES);
        behindInType("( Int ", ONES + " -> )");
        behindInType("[ Int ", ONES + " -> ]");
        behindInType("( Int ) ", ONES + " -> END");
        behindInType("[ Int ] -> a ", ONES + " -> END");
        Due d = new Due();
        d.kindIs("Int \n", "*");
        d.typeFault(1, "^");
        d.typeFault(1, " \n^");
        d.typeFault(1, "Int ^; ");
        d.typeFault(1, "Int ^, Int");
    }

    private static void askedPairs() {
        Due.sentence("The tape is two types, a , between");
        behindInPair("", ONES);
        behindInPair("Int ", ONES + " -> ,");
        behindInPair("Int -> ", ONES);
        behindInPair("( Int ", ONES + " -> )");
        behindInPair("Int , ", ONES);
        behindInPair("Int , Int ", ONES + " -> END");
        behindInPair("Int , ( Int ", ONES + " -> )");
        behindInPair("Int , [ Int ] ", ONES + " -> END");
        Due d = new Due();
        d.sameFault(1, "^");
        d.sameFault(1, "Int^");
        d.sameFault(1, "Int,^");
        d.sameFault(1, "^,Int");
        d.sameFault(1, "Int,Int^,Int");
    }

    private static void declared() {
        Due.sentence("DECLARED are what data, type, class tell, numbered 0, 1, .. as they come.");
        Due d = new Due();
        d.good(3, "kind C::*;type S=T;kind T::*;class C a{};data T=A|B;");
        Due.is("0 is S", d.x.told(0, 0), 1);
        Due.is("1 is C", d.x.told(1, 0), 2);
        Due.is("2 is T", d.x.told(2, 0), 0);
        Due.is("there is no 3", d.x.told(3, 0), -1);
        Due.is("nor a -1", d.x.told(-1, 0), -1);
        d.good(0, "");
        Due.is("there is no 0", d.x.told(0, 0), -1);
    }

    private static void parameters() {
        Due.sentence("PARAMETERS are the SMALL NAMES before = or { .");
        Due d = new Due();
        d.good(4, "data T=A;data U a b c=B a;type S x=x->x;class C y{m::y->z;};");
        int[] due = {0, 3, 1, 1};
        for (int i = 0; i < due.length; i++) {
            Due.is("parameters of " + i, d.x.told(i, 1), due[i]);
        }
    }
}
