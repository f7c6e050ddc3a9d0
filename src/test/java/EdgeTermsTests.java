import java.util.ArrayList;
import java.util.List;

/** What the document says ahead of its promises, sentence by sentence: the ERRORS, 1, 2 and 6. */
public final class EdgeTermsTests {

    // ---- what it is

    @Says(in = "What it is", words = "An object is used for at most 512 calls after it has been made")
    static void t0All512() {
        NineDemands x = new NineDemands();
        for (int n = 1; n < 512; n++) {
            Edge.due("call " + n, Edge.BEYOND, x.hall(12, 0));
        }
        Edge.due("call 512", 511, x.told(1));
    }

    @Says(in = "What it is", words = "what later calls answer is free")
    static void t0LaterCallsAnswerToo() {
        NineDemands x = Edge.five();
        for (int n = 0; n < 3000; n++) {
            x.feed(n, 1 + n % 8);
            x.law(n % 6, 1);
            x.tell(n);
            x.image();
            x.learn(n % 31);
            x.restore();
        }
    }

    // ---- the ERRORS

    @Says(in = "Terms ERRORS", words = "LOW - 1 BEYOND")
    static void t0Beyond() {
        Edge.due("chosen(12)", -1000001, new NineDemands().chosen(12));
    }

    @Says(in = "Terms ERRORS", words = "LOW - 2 NONE")
    static void t0None() {
        Edge.due("restore()", -1000002, new NineDemands().restore());
    }

    @Says(in = "Terms ERRORS", words = "LOW - 3 STATE")
    static void t0State() {
        Edge.due("small(0)", -1000003, new NineDemands().small(0));
    }

    @Says(in = "Terms ERRORS", words = "LOW - 4 FULL")
    static void t0Full() {
        NineDemands x = new NineDemands();
        for (int n = 0; n < 8; n++) {
            x.law(5, 0);
        }
        Edge.due("a ninth LAW", -1000004, x.law(5, 0));
    }

    @Says(in = "Terms ERRORS", words = "LOW - 5 KIND")
    static void t0Kind() {
        NineDemands x = new NineDemands();
        x.law(5, 0);
        Edge.due("as(0, 1)", -1000005, x.as(0, 1));
    }

    @Says(in = "Terms ERRORS", words = "(in longs, too)")
    static void t0InLongs() {
        Edge.due("rules(1)", -1000001L, new NineDemands().rules(1));
        Edge.due("rules(-1)", -1000001L, new NineDemands().rules(-1));
    }

    // ---- 1: PEOPLE, HALLS, CHOICES

    @Says(in = "Terms 1", words = "PEOPLE 0, 1, 2")
    static void t1People() {
        NineDemands x = new NineDemands();
        Edge.due("PERSON 0", 5, x.moved(4, 0));
        Edge.due("PERSON 2", 8, x.moved(4, 2));
        Edge.due("PERSON 3", Edge.BEYOND, x.moved(4, 3));
        Edge.due("PERSON -1", Edge.BEYOND, x.moved(4, -1));
    }

    @Says(in = "Terms 1", words = "THINGS A and B")
    static void t1Things() {
        NineDemands x = new NineDemands();
        for (int h = 0; h < 12; h++) {
            Edge.due("A and B wanted in " + h, x.hall(h, 0), x.hall(h, 1) + x.hall(h, 2));
        }
    }

    @Says(in = "Terms 1", words = "HALLS 0 to 11")
    static void t1Halls() {
        NineDemands x = new NineDemands();
        Edge.due("HALL -1", Edge.BEYOND, x.chosen(-1));
        Edge.due("HALL 0", 3, x.chosen(0));
        Edge.due("HALL 11", 3, x.chosen(11));
        Edge.due("HALL 12", Edge.BEYOND, x.chosen(12));
    }

    @Says(in = "Terms 1", words = "0 to 3 of PEOPLE 0 and 1, 4 to 11 of all three")
    static void t1TwoAndThree() {
        NineDemands x = new NineDemands();
        Edge.due("PEOPLE in HALL 3", 2, x.hall(3, 0));
        Edge.due("PEOPLE in HALL 4", 3, x.hall(4, 0));
        Edge.due("PERSON 2 in HALL 3", 2, x.hall(3, 12));
        Edge.due("PERSON 2 in HALL 4", 0, x.hall(4, 12));
    }

    @Says(in = "Terms 1", words = "in HALL h of two PERSON i wants B if bit i of h is set, else A; in HALL h of three likewise by h - 4")
    static void t1WantsByBits() {
        NineDemands x = new NineDemands();
        for (int h = 0; h < 12; h++) {
            for (int i = 0; i < (h < 4 ? 2 : 3); i++) {
                int bits = h < 4 ? h : h - 4;
                Edge.due("hall(" + h + ", " + (10 + i) + ")", bits >> i & 1, x.hall(h, 10 + i));
            }
        }
    }

    @Says(in = "Terms 1", words = "A CHOICE is 1 (A), 2 (B) or 3 (both)")
    static void t1Choices() {
        NineDemands x = new NineDemands();
        Edge.due("CHOICE 0", Edge.BEYOND, x.choose(0, 0));
        for (int choice = 1; choice <= 3; choice++) {
            x.choose(0, choice);
            Edge.due("CHOICE " + choice, choice, x.chosen(0));
        }
        Edge.due("CHOICE 4", Edge.BEYOND, x.choose(0, 4));
        x.form(0);
        Edge.due("A", 1, x.chosen(0));
        x.form(1);
        Edge.due("B", 2, x.chosen(0));
        x.form(2);
        Edge.due("both", 3, x.chosen(0));
    }

    @Says(in = "Terms 1", words = "A RULE has a CHOICE for each HALL")
    static void t1ARule() {
        Edge.due("all RULES: 3 CHOICES in each of 12 HALLS", 531441, new NineDemands().rules(0));
    }

    @Says(in = "Terms 1", words = "THE TOLD RULE is such a one (all 3 at first)")
    static void t1AllThreeAtFirst() {
        Edge.dueRule("at first", "333333333333", new NineDemands());
    }

    // ---- 2: LAWS and their CASES

    @Says(in = "Terms 2", words = "LAWS 0, 1, .. (at most 8)")
    static void t2AtMostEight() {
        NineDemands x = new NineDemands();
        for (int n = 0; n < 8; n++) {
            Edge.due("LAW " + n + " ahead of its making", Edge.BEYOND, x.breach(n));
            Edge.due("law(2, 0)", n, x.law(2, 0));
            Edge.due("LAW " + n, Edge.NONE, x.breach(n));
        }
        Edge.due("a ninth", Edge.FULL, x.law(2, 0));
        Edge.due("LAW 8", Edge.BEYOND, x.breach(8));
    }

    @Says(in = "Terms 2", words = "KINDS: 0 LAW, 1 MOVED under LAW, 2 ALIKE under MOVED, 3 TURNED under MOVED, 4 COMES under MOVED, 5 SINGLE under LAW")
    static void t2Kinds() {
        NineDemands x = Edge.ofAllKinds();
        String[] asWhat = {"0", "01", "012", "013", "014", "05"};
        for (int n = 0; n < 6; n++) {
            for (int kind = 0; kind < 6; kind++) {
                boolean is = asWhat[n].indexOf('0' + kind) >= 0;
                Edge.due("as(" + n + ", " + kind + ") is KIND", is ? 0 : 1, x.as(n, kind) == Edge.KIND ? 1 : 0);
            }
        }
    }

    @Says(in = "Terms 2", words = "KINDS 0, 1, 4 have a TEXT")
    static void t2WithText() {
        for (int kind = 0; kind < 6; kind++) {
            boolean hasText = kind == 0 || kind == 1 || kind == 4;
            NineDemands x = new NineDemands();
            Edge.due("KIND " + kind + " without a TAPE", hasText ? -10 : 0, x.law(kind, 0));
            Edge.feed(x, "c");
            x.law(kind, 0);
            Edge.due("bytes that KIND " + kind + " leaves", hasText ? 0 : 1, x.count(3));
        }
    }

    @Says(in = "Terms 2", words = "Each has a PRICE (0 .. 99)")
    static void t2Price() {
        NineDemands x = new NineDemands();
        Edge.due("PRICE -1", Edge.BEYOND, x.law(5, -1));
        Edge.due("PRICE 0", 0, x.law(5, 0));
        Edge.due("PRICE 99", 1, x.law(5, 99));
        Edge.due("PRICE 100", Edge.BEYOND, x.law(5, 100));
        Edge.due("together", 99, x.count(1));
    }

    private static void dueCases(NineDemands x, int law, List<int[]> pairs) {
        for (int i = 0; i < pairs.size(); i++) {
            Edge.due("part(" + law + ", " + i + ", 0)", pairs.get(i)[0], x.part(law, i, 0));
            int k = pairs.get(i).length > 1 ? pairs.get(i)[1] : Edge.NONE;
            Edge.due("part(" + law + ", " + i + ", 1)", k, x.part(law, i, 1));
        }
        Edge.due("no CASE behind the last one", Edge.BEYOND, x.part(law, pairs.size(), 0));
        Edge.due("how many", pairs.size(), x.as(law, 0));
    }

    /** The HALL of as many PEOPLE in which those of the mask want the other THING. */
    private static int changed(int hall, int mask) {
        int base = hall < 4 ? 0 : 4;
        return base + (hall - base ^ mask);
    }

    @Says(in = "Terms 2", words = "LAW, SINGLE: each h")
    static void t2CasesOfOneHall() {
        List<int[]> halls = new ArrayList<>();
        for (int h = 0; h < 12; h++) {
            halls.add(new int[] {h});
        }
        dueCases(Edge.ofAllKinds(), 0, halls);
        dueCases(Edge.ofAllKinds(), 5, halls);
    }

    @Says(in = "Terms 2", words = "MOVED: each h, for it each of its PEOPLE i: k is h, but that i wants the other THING")
    static void t2CasesOfMoved() {
        List<int[]> pairs = new ArrayList<>();
        for (int h = 0; h < 12; h++) {
            for (int i = 0; i < Edge.peopleIn(h); i++) {
                pairs.add(new int[] {h, changed(h, 1 << i)});
            }
        }
        dueCases(Edge.ofAllKinds(), 1, pairs);
    }

    @Says(in = "Terms 2", words = "ALIKE: each h, for it each two of its PEOPLE (0 and 1, 0 and 2, 1 and 2) who want unlike THINGS: k is h with these wants changed")
    static void t2CasesOfAlike() {
        List<int[]> pairs = new ArrayList<>();
        int[][] twos = {{0, 1}, {0, 2}, {1, 2}};
        for (int h = 0; h < 12; h++) {
            for (int[] two : twos) {
                int one = Edge.wants(h, two[0]);
                int other = Edge.wants(h, two[1]);
                if (other != 2 && one != other) {
                    pairs.add(new int[] {h, changed(h, 1 << two[0] | 1 << two[1])});
                }
            }
        }
        Edge.due("CASES told here", 14, pairs.size());
        dueCases(Edge.ofAllKinds(), 2, pairs);
    }

    @Says(in = "Terms 2", words = "TURNED: each h: k is h, but that all want the other THING")
    static void t2CasesOfTurned() {
        List<int[]> pairs = new ArrayList<>();
        for (int h = 0; h < 12; h++) {
            pairs.add(new int[] {h, changed(h, h < 4 ? 3 : 7)});
        }
        dueCases(Edge.ofAllKinds(), 3, pairs);
    }

    @Says(in = "Terms 2", words = "COMES: h 0 to 3, for it what PERSON 2 wants, A ahead of B: k is the HALL of three in which PERSON 2 wants that and the others want as in h")
    static void t2CasesOfComes() {
        List<int[]> pairs = new ArrayList<>();
        for (int h = 0; h < 4; h++) {
            pairs.add(new int[] {h, 4 + h});
            pairs.add(new int[] {h, 8 + h});
        }
        dueCases(Edge.ofAllKinds(), 4, pairs);
    }

    @Says(in = "Terms 2", words = "In a CASE c is the CHOICE of h, d that of k")
    static void t2WhichIsC() {
        NineDemands x = new NineDemands();
        Edge.law(x, 4, 0, "c=1&d=2");
        Edge.due("so(0, 0, 1, 2)", 1, x.so(0, 0, 1, 2));
        Edge.due("so(0, 0, 2, 1)", 0, x.so(0, 0, 2, 1));
        Edge.tellRule(x, "111122222222");
        Edge.due("h chooses A, k B", Edge.NONE, x.breach(0));
        Edge.tellRule(x, "222211111111");
        Edge.due("h chooses B, k A", 0, x.breach(0));
    }

    @Says(in = "Terms 2", words = "A RULE keeps a LAW if in all its CASES")
    static void t2InAllCases() {
        NineDemands x = Edge.five();
        x.form(0);
        Edge.due("SINGLE is kept", Edge.NONE, x.breach(4));
        for (int h = 0; h < 12; h++) {
            x.choose(h, 3);
            Edge.due("broken in HALL " + h + " alone", h, x.breach(4));
            Edge.due("so it isn't kept", 0, x.kept() & 16);
            x.choose(h, 1);
        }
    }

    @Says(in = "Terms 2", words = "SINGLE: c isn't 3")
    static void t2KeepsSingle() {
        NineDemands x = Edge.ofAllKinds();
        for (int h = 0; h < 12; h++) {
            for (int c = 1; c <= 3; c++) {
                Edge.due("so(5, " + h + ", " + c + ")", c == 3 ? 0 : 1, x.so(5, h, c, 1));
            }
        }
    }

    @Says(in = "Terms 2", words = "ALIKE: d is c")
    static void t2KeepsAlike() {
        NineDemands x = Edge.ofAllKinds();
        for (int i = 0; i < 14; i++) {
            for (int two = 0; two < 9; two++) {
                int c = 1 + two / 3;
                int d = 1 + two % 3;
                Edge.due("so(2, " + i + ", " + c + ", " + d + ")", c == d ? 1 : 0, x.so(2, i, c, d));
            }
        }
    }

    @Says(in = "Terms 2", words = "TURNED: d is c with A and B changed")
    static void t2KeepsTurned() {
        NineDemands x = Edge.ofAllKinds();
        int[] turned = {0, 2, 1, 3};
        for (int i = 0; i < 12; i++) {
            for (int two = 0; two < 9; two++) {
                int c = 1 + two / 3;
                int d = 1 + two % 3;
                Edge.due("so(3, " + i + ", " + c + ", " + d + ")", turned[c] == d ? 1 : 0, x.so(3, i, c, d));
            }
        }
    }

    @Says(in = "Terms 2", words = "others: the TEXT is not 0")
    static void t2KeepsText() {
        for (int kind : new int[] {0, 1, 4}) {
            NineDemands x = new NineDemands();
            Edge.law(x, kind, 0, "c-2");
            Edge.due("-1 is not 0", 1, x.so(0, 0, 1, 1));
            Edge.due("0", 0, x.so(0, 0, 2, 1));
            Edge.due("1 is not 0", 1, x.so(0, 0, 3, 1));
        }
    }

    // ---- 6: SHEETS

    @Says(in = "Terms 6", words = "SHEETS 0 .. 3")
    static void t6Four() {
        NineDemands x = new NineDemands();
        Edge.due("SHEET -1", Edge.BEYOND, x.sheet(-1, 8, 1));
        for (int sheet = 0; sheet < 4; sheet++) {
            Edge.due("SHEET " + sheet, 1, x.sheet(sheet, 8, 1));
        }
        Edge.due("SHEET 4", Edge.BEYOND, x.sheet(4, 8, 1));
    }

    @Says(in = "Terms 6", words = "rows of 8, 16, 32 bits")
    static void t6Bits() {
        NineDemands x = new NineDemands();
        for (int bits = -1; bits <= 65; bits++) {
            boolean is = bits == 0 || bits == 8 || bits == 16 || bits == 32;
            Edge.due("sheet(0, " + bits + ", 1)", is ? 1 : Edge.BEYOND, x.sheet(0, bits, 1));
        }
    }

    @Says(in = "Terms 6", words = "at most 40 numbers")
    static void t6AtMostForty() {
        for (int bits : new int[] {8, 16, 32}) {
            NineDemands x = new NineDemands();
            Edge.due("41", Edge.BEYOND, x.sheet(0, bits, 41));
            Edge.due("40", 1, x.sheet(0, bits, 40));
            Edge.due("the last", 1, x.put(0, 39, 1));
            Edge.due("one more", Edge.BEYOND, x.put(0, 40, 1));
        }
    }

    @Says(in = "Terms 6", words = "or missing (as at first)")
    static void t6MissingAtFirst() {
        NineDemands x = new NineDemands();
        for (int sheet = 0; sheet < 4; sheet++) {
            Edge.due("put(" + sheet + ", 0, 1)", Edge.NONE, x.put(sheet, 0, 1));
            Edge.due("check(0, " + sheet + ")", Edge.NONE, x.check(0, sheet));
            Edge.due("move(" + sheet + ")", Edge.NONE, x.move(sheet, 0, sheet, 0, 0));
        }
    }

    public static void main(String[] args) {
        Edge.run(EdgeTermsTests.class);
    }
}
