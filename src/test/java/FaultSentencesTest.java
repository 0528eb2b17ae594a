/** Part 1 of the document, sentence by sentence: the faults 1 to 5, and which of them comes first. */
public final class FaultSentencesTest {
    public static void main(String[] args) {
        firstThatFits();
        noToken();
        tooLongName();
        cannotStand();
        declared17();
        parameter4();
        con7();
        method5();
        nested9();
        node201();
        fromTheLeft();
        faults3FromTheLeft();
        toldTwice();
        bigNotTold();
        smallNotTold();
        kindNotTold();
        rings();
        lacks();
        equationsLast();
        Due.end();
    }

    private static void firstThatFits() {
        Due.sentence("FAULTS, the first that fits, told with a place (a byte of the tape, from 0)");
        Due d = new Due();
        d.fault(1, "^?");
        d.fault(1, "\n^?");
        d.fault(1, Due.times(" ", 1199) + "^?");
        d.fault(1, Due.times(" ", 1192) + "data T=A^");
        d.fault(1, "data T=A x|A(Int Int);type U=U;type V a=V;data W a b c^?");
        d.fault(2, "data T=A x|A(Int Int);type U=U;type V a=V;data W a b c ^d=B;");
        d.fault(3, "data T=A ^x|A(Int Int);type U=U;type V a=V;");
        d.fault(4, "data T=A(Int Int);type ^U=U;type V a=a;type W=V;");
        d.fault(5, "data T=A(Int Int);type V a=a;type W=^V;");
        d.fault(6, "data T=A(Int ^Int);type V a=a;type W=V Int;");
        d.good(3, "data T=A Int;type V a=a;type W=V Int;");
    }

    private static void noToken() {
        Due.sentence("1 a byte with which no TOKEN begins");
        Due d = new Due();
        d.fault(1, "data T=A ^. ;");
        d.fault(1, "data T=A ^9 ;");
        d.fault(1, "data T=A^\t;");
        d.fault(1, "data T=A^\r;");
        d.fault(1, "data T=A^\0;");
        d.fault(1, "data T=A^\u00ff;");
        d.fault(1, "data T=A^_;");
        d.fault(1, "^?");
        d.fault(1, "data T=A;^?");
        d.typeFault(1, "Int ^?");
        d.sameFault(1, "Int,Int ^?");
    }

    private static void tooLongName() {
        Due.sentence("a NAME that is too long (at its first byte)");
        Due d = new Due();
        d.good(1, "data Abcdefgh abcdefgh=Abcdefgh abcdefgh;");
        d.fault(1, "data ^Abcdefghi=A;");
        d.fault(1, "data T ^abcdefghi=A;");
        d.fault(1, "data T=^Abcdefghi;");
        d.fault(1, "data T=A ^Abcdefghi;");
        d.fault(1, "type T=Int->^abcdefghi;");
        d.fault(1, "class C a{^abcdefghi::a;};");
        d.fault(1, "kind ^Abcdefghi::*;");
        d.fault(1, "^datatypes;");
        d.fault(1, "^" + Due.times("a", 1200));
        d.typeFault(1, "f ^Abcdefghi");
        d.sameFault(1, "f,^abcdefghi");
    }

    private static void cannotStand() {
        Due.sentence("a TOKEN that can't stand where it does (at its first byte; the tape's length at the end)");
        Due d = new Due();
        d.fault(1, "data ^data");
        d.fault(1, "data T=A ^:: ;");
        d.fault(1, "data T=A ^-> ;");
        d.fault(1, "data T ^Abcdefgh=A;");
        d.fault(1, "data^");
        d.fault(1, "data T=A^");
        d.fault(1, "data T=A  \n^");
        d.fault(1, "class C a{^");
        d.typeFault(1, "^");
        d.typeFault(1, "   ^");
        d.typeFault(1, "(Int ^");
        d.sameFault(1, "Int ^");
        d.sameFault(1, "Int,  ^");
        String full = "data T=A" + Due.times(" ", 1192);
        d.fault(1, full + "^");
    }

    private static String sixteen() {
        StringBuilder all = new StringBuilder();
        String[] decls = {"data @=K@;", "type @=Int;", "class @ a{};kind @::*;"};
        for (int i = 0; i < 16; i++) {
            all.append(decls[i % 3].replace("@", "" + (char) ('A' + i)));
        }
        return all.toString();
    }

    private static void declared17() {
        Due.sentence("2 too much, at the TOKEN that is too much: a 17th DECLARED (its BIG)");
        Due d = new Due();
        String all = sixteen();
        d.good(16, all);
        d.good(16, all + "kind A::*;");
        d.fault(2, all + "data ^X=Y;");
        d.fault(2, all + "type ^X=Y;");
        d.fault(2, all + "class ^X a{};");
        d.fault(2, all + "data ^A=Y;");
        d.fault(2, all + "data ^X");
        d.fault(1, all + "data^");
        d.fault(1, all + "data ^x");
        d.fault(3, all + "kind ^X::*;");
    }

    private static void parameter4() {
        Due.sentence("a 4th PARAMETER");
        Due d = new Due();
        d.good(1, "data T a b c=A;");
        d.fault(2, "data T a b c ^d=A;");
        d.fault(2, "data T a b c ^a");
        d.fault(2, "data T a b c ^d e f=A;");
        d.good(1, "type T a b c=a;");
        d.fault(2, "type T a b c ^d=a;");
        d.good(2, "data T a b c=A;data U a b c=B;");
        d.fault(1, "class C a ^b{};");
    }

    private static void con7() {
        Due.sentence("a 7th con of a data (its BIG)");
        Due d = new Due();
        d.good(1, "data T=A|B|C|D|E|F;");
        d.fault(2, "data T=A|B|C|D|E|F|^G;");
        d.fault(2, "data T=A|B|C|D|E|F|^A;");
        d.fault(2, "data T=A|B|C|D|E|F|^G");
        d.fault(1, "data T=A|B|C|D|E|F|^;");
        d.fault(1, "data T=A|B|C|D|E|F|^g;");
        d.good(2, "data T=A|B|C|D|E|F;data U=G|H|I|J|K|L;");
        d.fault(2, "data T=A;data U=G|H|I|J|K|L|^M;");
        d.good(1, "data T=A T T T T T T T|B;");
    }

    private static void method5() {
        Due.sentence("a 5th method of a class (its SMALL before ::)");
        Due d = new Due();
        String four = "class C a{m::a;n::a;o::a;p::a;";
        d.good(1, four + "};");
        d.fault(2, four + "^q::a;};");
        d.fault(2, four + "^m::a;};");
        d.fault(2, four + "^q");
        d.fault(2, four + "^q;");
        d.fault(1, four + "^;};");
        d.fault(1, four + "^Q::a;};");
        d.good(2, four + "};class D a{q::a;r::a;s::a;t::a;};");
        d.fault(2, four + "};class D a{q::a;r::a;s::a;t::a;^u::a;};");
    }

    private static void nested9() {
        Due.sentence("a ( or [ within eight others (of its type or kind)");
        Due d = new Due();
        for (int square = 0; square <= 8; square++) {
            String open = Due.times("[", square) + Due.times("(", 8 - square);
            String close = Due.times(")", 8 - square) + Due.times("]", square);
            String eight = open + "Int" + close;
            d.good(1, "type T=" + eight + "->" + eight + ";");
            d.fault(2, "type T=" + eight + "->" + open + "^(Int");
            d.fault(2, "type T=" + open + "Int->^[Int");
            d.good(1, "data T=A " + eight + eight + "|B" + eight + ";");
            d.fault(2, "data T=A " + eight + open + "^(Int)" + close + ";");
            d.good(1, "class C a{m::" + eight + ";n::" + eight + ";};");
            d.fault(2, "class C a{m::" + eight + ";n::" + open + "^[Int]" + close + ";};");
            d.kindIs(eight, "*");
            d.typeFault(2, open + "^[Int]" + close);
            d.sameIs(eight + "," + eight, 1, -3);
            d.sameFault(2, eight + "," + open + "^(Int)" + close);
        }
        String open = Due.times("(", 8);
        String eight = open + "*" + Due.times(")", 8);
        d.good(1, "kind T::" + eight + ";data T=A;");
        d.good(1, "kind T::" + eight + "->" + eight + ";data T a=A;");
        d.fault(2, "kind T::" + open + "^(*;");
        d.fault(2, "kind T::*->" + open + "*->^(*;");
        d.fault(1, "kind T::" + open + "^[*;");
        d.good(1, "type T=" + Due.times("(Int)->", 20) + "[Int];");
        d.fault(1, "type T=" + open + "^)");
    }

    private static void node201() {
        Due.sentence("the 201st BIG, SMALL, [ or -> within types.");
        Due d = new Due();
        String all = "data Tttttttt a b c=Aa(a)" + Due.times("[a]", 98) + " a";
        String names = "|Bb|Cc;class Cc mm{};kind Cc::(*->*)->*->*;kind Tttttttt::*->*->*->*;";
        d.good(2, all + " Int a" + names);
        d.good(2, all + "([(Int)])" + names);
        String full = all + "([Int])";
        d.fault(2, full + " ^a" + names);
        d.fault(2, full + " ^Int" + names);
        d.fault(2, full + "^[a]" + names);
        d.fault(2, full + "(^a)" + names);
        d.fault(2, full + names + "type S=^Int;");
        d.fault(2, full + names + "class D a{m::^a;};");
        d.fault(2, all + "(a a ^-> a)" + names);
        String arrows = Due.times("a->", 99) + "a";
        d.fault(2, "type T a=" + arrows + " a ^-> a;");
        d.fault(2, "type T a=" + arrows + " a ^[a];");
        d.good(1, "type T a=" + arrows + ";");
        d.kindIs(Due.times("a->", 99) + "[a]", "*");
        d.typeFault(2, Due.times("a->", 99) + "[a]^->a");
        d.typeFault(2, Due.times("a->", 99) + "[a] ^a");
        d.typeFault(2, Due.times("a->", 99) + "[a] ^Int");
        d.typeFault(2, Due.times("a->", 99) + "[a] ^[a]");
        d.typeFault(1, Due.times("a->", 99) + "[a] ^]");
    }

    private static void fromTheLeft() {
        Due.sentence("(1 and 2: from the left; of one TOKEN 1 before 2.)");
        Due d = new Due();
        d.fault(2, "data T a b c ^d=A ? ;");
        d.fault(1, "data T ^? a b c d=A;");
        d.fault(1, "data T=A;data T=^;data U a b c d=B;");
        d.fault(2, "data T a b c ^d=A|B|C|D|E|F|G;");
        d.fault(1, sixteen() + "data ^Toolong89=A;");
        d.fault(1, "data T a b c ^toolong89=A;");
        d.fault(1, "data T=A|B|C|D|E|F|^Toolong89;");
        d.fault(1, "class C a{m::a;n::a;o::a;p::a;^toolong89::a;};");
        d.fault(1, "data T a=A" + Due.times(" a", 200) + " ^toolong89;");
        d.fault(1, "data T a=A" + Due.times(" a", 200) + " ^-> a;");
        d.fault(1, "kind T::" + Due.times("(", 8) + "*^(*;");
    }

    private static void faults3FromTheLeft() {
        Due.sentence("If there is none of these, the first from the left of 3");
        Due d = new Due();
        d.fault(1, "data T=A x;data T=A^");
        d.fault(2, "data T=A x;data T a b c ^d=A;");
        d.fault(3, "data T=A ^x;data T=A;kind Q::*;");
        d.fault(3, "kind ^Q::*;data T=A x;data T=A;");
        d.fault(3, "data T a ^a=A x|A;");
        d.fault(3, "data T=A|^A x;");
        d.fault(3, "data T=A;data ^T a a=A;");
        d.fault(3, "class C a{m::a;^m::X;};");
        d.fault(3, "type T=(Int->^X)y;");
    }

    private static void toldTwice() {
        Due.sentence("a NAME that is told a second time (DECLARED, Int being one; cons; methods, each sort among "
            + "themselves; PARAMETERS of one decl; what kind tells)");
        Due d = new Due();
        String[] decls = {"data ^T=A;", "type ^T=Int;", "class ^T a{};"};
        for (String first : decls) {
            for (String second : decls) {
                d.fault(3, first.replace("^", "").replace("A", "B") + second);
            }
            d.fault(3, first.replace("T", "Int"));
        }
        d.fault(3, "data T=A|B|^A;");
        d.fault(3, "data T=A;data U=B|^A;");
        d.good(1, "data T=Int;");
        d.good(2, "data T=U;data U=T;");
        d.fault(3, "class C a{m::a;n::a;^m::a;};");
        d.fault(3, "class C a{m::a;};class D a{^m::a;};");
        d.good(1, "class C m{m::m;n::m->n;};");
        d.fault(3, "data T a ^a=A;");
        d.fault(3, "data T a b ^a=A;");
        d.fault(3, "type T a b ^b=Int;");
        d.good(3, "data T a b=A;type U b a=Int;class C a{};");
        d.fault(3, "data T=A;kind T::*;kind ^T::*;");
        d.good(3, "kind T::*;kind U::*;kind C::*;data T=A;type U=Int;class C a{};");
    }

    private static void bigNotTold() {
        Due.sentence("or not at all: a BIG in a type that is neither a data or type here, nor Int");
        Due d = new Due();
        d.good(3, "data T=A U S Int;data U=B;type S=U;");
        d.fault(3, "data T=A ^A;");
        d.fault(3, "data T=A(Int->[^U]);");
        d.fault(3, "type S=^U;");
        d.fault(3, "class C a{m::^U a;};");
        d.fault(3, "class C a{m::^C a;};");
        d.fault(3, "data T=A ^C;class C a{};");
        d.fault(3, "data T=A ^Ints;");
        d.good(1, "class C a{};");
        d.typeFault(3, "Int->^C");
        d.sameFault(3, "Int,^T");
    }

    private static void smallNotTold() {
        Due.sentence("a SMALL in a type that is no PARAMETER of its decl (in a method it may be another one)");
        Due d = new Due();
        d.fault(3, "data T=A ^a;");
        d.fault(3, "data T a=A a ^b;");
        d.fault(3, "data T a=A a;data U b=B ^a;");
        d.fault(3, "type T a=a->^b;");
        d.fault(3, "type T=[^a];");
        d.fault(3, "class C a{m::b;};data T=A ^b;");
        d.good(1, "class C a{m::b->c a;n::b;};");
        d.kindIs("x->y", "*");
    }

    private static void kindNotTold() {
        Due.sentence("what kind tells, if it is not DECLARED.");
        Due d = new Due();
        d.fault(3, "kind ^T::*;");
        d.fault(3, "data T=A;kind ^A::*;");
        d.fault(3, "kind T::*;kind ^U::*;data T=A;");
        d.good(1, "kind T::*;data T=A;");
        d.good(1, "type T=Int;kind T::*;");
        d.good(1, "kind C::*;class C a{};");
    }

    private static void rings() {
        Due.sentence("If there is none of these, of 4: a type in a RING: that comes to itself by types (the word type) "
            + "that its right side names, and so on (at its BIG behind the word).");
        Due d = new Due();
        d.fault(4, "type ^A=A;");
        d.fault(4, "type ^A=Int->[(A)];");
        d.fault(4, "type ^A a=A a;");
        d.fault(4, "type ^A=B;type B=C;type C=A;");
        d.fault(4, "type A=B;type ^B=C;type C=B;");
        d.fault(4, "type A=B;type B=Int;type ^C=D;type D=C;");
        d.fault(4, "class C a{m::A;};data T=K A;type ^A=B;type B=A;");
        d.good(1, "data A=K A;");
        d.good(2, "type A=T;data T=K A;");
        d.good(3, "type A=B;type B=T;data T=K A;");
        d.good(3, "type A=B->C;type B=C;type C=Int;");
        d.good(2, "class A a{m::B;};type B=Int;");
        d.fault(3, "type A=A;type B=^x;");
    }

    private static void lacks() {
        Due.sentence("If there is none, of 5: the BIG of a type (the word type) with PARAMETERS that is not the first one "
            + "of its some, or has fewer ones behind it there than PARAMETERS (at it).");
        Due d = new Due();
        String s = "type S a b=a;type Z=L;data L a=K a;type G a=L;";
        d.good(5, s + "type X=S Int Int;");
        d.good(5, s + "type X=G Int Int;");
        d.fault(5, s + "type X=^S Int;");
        d.fault(5, s + "type X=^S;");
        d.fault(5, s + "type X=^S Int->Int;");
        d.fault(5, s + "type X=(^S Int)Int;");
        d.fault(5, s + "type X=[^S]Int Int;");
        d.fault(5, s + "type X=L ^S Int Int;");
        d.fault(5, s + "type X=S Int ^S Int Int;");
        d.fault(5, s + "data X=A ^S Int Int;");
        d.good(5, s + "data X=A(S Int Int);");
        d.fault(5, s + "class C a{m::a->^S a;};");
        d.good(5, s + "data X=A(Z Int);");
        d.good(6, s + "type X f=f Int;type Y=X Z;");
        d.fault(5, "type X=^S Int;" + s);
        d.fault(5, s + "type X=^S->S;");
        d.fault(4, s + "type X=S;type ^Y=Y;");
        d.good(4, s);
        d.typeFault(5, "^S Int");
        d.typeFault(5, "Int->L ^S");
        d.plainIs("G Int Int", "L Int");
        d.sameFault(5, "S Int Int,^S");
    }

    private static void equationsLast() {
        Due.sentence("If there is none, 6: an EQUATION (part 2).");
        Due d = new Due();
        d.fault(6, "data T=A(Int ^Int);type S a=a;");
        d.fault(5, "data T=A(Int Int);type S a=a;type X=^S;");
        d.fault(4, "data T=A(Int Int);type ^S=S;");
        d.fault(3, "data T=A(Int Int)^x;");
        d.fault(2, "data T=A(Int Int);data U a b c ^d=B;");
        d.fault(1, "data T=A(Int Int)^");
        d.good(1, "data T=A(Int);");
    }
}
