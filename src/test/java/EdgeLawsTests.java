/** Promises 8 to 15, sentence by sentence: laws. */
public final class EdgeLawsTests {
    private static final int[] NO_LAWS = {Edge.LEAST, -1, 6, 7, 8, Edge.GREATEST};
    private static final int[] NO_PRICES = {Edge.LEAST, -1, 100, 101, Edge.GREATEST};
    private static final int[] NO_KINDS = {Edge.LEAST, -1, 6, 7, Edge.GREATEST};

    // ---- 8: feed

    @Says(in = "Promise 8", words = "The n lowest bytes (1 .. 8) of a word")
    static void p08OneToEight() {
        for (int n = 1; n <= 8; n++) {
            NineDemands x = new NineDemands();
            Edge.due("feed of " + n, n, x.feed(Edge.word("c+1+1+1+"), n));
            int law = x.law(0, 0);
            Edge.due("only these bytes are there", n % 2 == 1 ? 0 : -10 - n, law);
        }
    }

    @Says(in = "Promise 8", words = "The n lowest bytes (1 .. 8) of a word")
    static void p08HigherBytesAreNotSeen() {
        NineDemands x = new NineDemands();
        Edge.due("feed of -157 with 1", 1, x.feed(-157L, 1));
        Edge.due("it is c", 0, x.law(0, 0));
        x.feed(0x7878787878783163L, 1);
        Edge.due("it is c", 1, x.law(0, 0));
    }

    @Says(in = "Promise 8", words = "The n lowest bytes (1 .. 8) of a word")
    static void p08TheHighestByte() {
        NineDemands x = new NineDemands();
        x.feed(Edge.word("0+0+0+0-"), 8);
        x.feed(Edge.word("c+0+0+00"), 8);
        Edge.due("all 16 are a TEXT", 0, x.law(0, 0));
        x.feed(0xff302b302b302b63L, 8);
        Edge.due("byte 255 at place 7", -17, x.law(0, 0));
    }

    @Says(in = "Promise 8", words = "the lowest first")
    static void p08LowestFirst() {
        NineDemands x = new NineDemands();
        x.feed(0x32L << 16 | 0x3cL << 8 | 0x63L, 3);
        x.law(0, 0);
        Edge.due("c<2 with A", 1, x.so(0, 0, 1, 1));
        Edge.due("c<2 with B", 0, x.so(0, 0, 2, 1));
    }

    @Says(in = "Promise 8", words = "come to THE TAPE: how many there are")
    static void p08BehindTheOthers() {
        NineDemands x = new NineDemands();
        Edge.due("first", 2, x.feed(Edge.word("c="), 2));
        Edge.due("second", 3, x.feed(Edge.word("1"), 1));
        Edge.due("third", 6, x.feed(Edge.word("|c="), 3));
        Edge.due("fourth", 7, x.feed(Edge.word("3"), 1));
        Edge.due("count(3)", 7, x.count(3));
        x.law(0, 0);
        Edge.due("c=1|c=3 with B", 0, x.so(0, 0, 2, 1));
        Edge.due("c=1|c=3 with both", 1, x.so(0, 0, 3, 1));
    }

    @Says(in = "Promise 8", words = "BEYOND")
    static void p08NoneOrMoreThanEight() {
        NineDemands x = new NineDemands();
        for (int n : new int[] {Edge.LEAST, -1, 0, 9, 10, Edge.GREATEST}) {
            Edge.due("feed(.., " + n + ")", Edge.BEYOND, x.feed(99L, n));
        }
        Edge.due("count(3)", 0, x.count(3));
    }

    @Says(in = "Promise 8", words = "FULL")
    static void p08FiftyIsFull() {
        NineDemands x = new NineDemands();
        for (int n = 1; n <= 6; n++) {
            x.feed(0L, 8);
        }
        Edge.due("48 and 3", Edge.FULL, x.feed(0L, 3));
        Edge.due("48 stay", 48, x.count(3));
        Edge.due("48 and 8", Edge.FULL, x.feed(0L, 8));
        Edge.due("48 and 1", 49, x.feed(0L, 1));
        Edge.due("49 and 2", Edge.FULL, x.feed(0L, 2));
        Edge.due("49 and 1", 50, x.feed(0L, 1));
        Edge.due("50 and 1", Edge.FULL, x.feed(0L, 1));
        Edge.due("count(3)", 50, x.count(3));
    }

    @Says(in = "Promise 8", words = "FULL")
    static void p08FullTakesNotEvenSome() {
        NineDemands x = new NineDemands();
        Edge.feed(x, "c" + "+0".repeat(23) + "+0");
        Edge.due("49 and 2", Edge.FULL, x.feed(Edge.word("00"), 2));
        Edge.due("what was there is a TEXT", 0, x.law(0, 0));
    }

    // ---- 9: law

    @Says(in = "Promise 9", words = "A LAW: its number")
    static void p09Numbers() {
        NineDemands x = new NineDemands();
        for (int n = 0; n < 8; n++) {
            Edge.due("law(" + (2 + n % 2) + ", " + n + ")", n, x.law(2 + n % 2, n));
            Edge.due("count(0)", n + 1, x.count(0));
        }
        Edge.due("PRICES", 28, x.count(1));
    }

    @Says(in = "Promise 9", words = "one that has a TEXT takes THE TAPE, which is empty then")
    static void p09TakesTheTape() {
        for (int kind : new int[] {0, 1, 4}) {
            NineDemands x = new NineDemands();
            Edge.due("law of c=1", 0, Edge.law(x, kind, 0, "c=1"));
            Edge.due("count(3)", 0, x.count(3));
            Edge.due("without TAPE", -10, x.law(kind, 0));
            Edge.due("the TEXT stays the LAW's", 1, x.so(0, 0, 1, 1));
            Edge.due("law of c=2", 1, Edge.law(x, kind, 0, "c=2"));
            Edge.due("the first keeps its own", 1, x.so(0, 0, 1, 1));
            Edge.due("the second has its own", 0, x.so(1, 0, 1, 1));
        }
    }

    @Says(in = "Promise 9", words = "one that has a TEXT takes THE TAPE")
    static void p09OthersLeaveTheTape() {
        NineDemands x = new NineDemands();
        Edge.feed(x, "c=");
        for (int kind : new int[] {2, 3, 5}) {
            x.law(kind, 0);
            Edge.due("bytes behind KIND " + kind, 2, x.count(3));
        }
        Edge.feed(x, "2");
        Edge.due("then one with a TEXT", 3, x.law(0, 0));
        Edge.due("c=2", 1, x.so(3, 0, 2, 1));
    }

    @Says(in = "Promise 9", words = "BEYOND: KIND, PRICE")
    static void p09NoSuchKind() {
        NineDemands x = new NineDemands();
        Edge.feed(x, "c");
        for (int kind : NO_KINDS) {
            Edge.due("law(" + kind + ", 0)", Edge.BEYOND, x.law(kind, 0));
        }
        Edge.due("LAWS", 0, x.count(0));
        Edge.due("THE TAPE", 1, x.count(3));
    }

    @Says(in = "Promise 9", words = "BEYOND: KIND, PRICE")
    static void p09NoSuchPrice() {
        NineDemands x = new NineDemands();
        Edge.feed(x, "c");
        for (int price : NO_PRICES) {
            Edge.due("law(0, " + price + ")", Edge.BEYOND, x.law(0, price));
            Edge.due("law(2, " + price + ")", Edge.BEYOND, x.law(2, price));
        }
        Edge.due("LAWS", 0, x.count(0));
        Edge.due("THE TAPE", 1, x.count(3));
        Edge.due("PRICE 99", 0, x.law(0, 99));
        Edge.due("PRICE 0", 1, x.law(2, 0));
    }

    @Says(in = "Promise 9", words = "FULL (THE TAPE stays)")
    static void p09Full() {
        NineDemands x = new NineDemands();
        for (int n = 0; n < 8; n++) {
            x.law(3, 1);
        }
        Edge.feed(x, "c=2");
        for (int kind = 0; kind < 6; kind++) {
            Edge.due("law(" + kind + ", 1)", Edge.FULL, x.law(kind, 1));
            Edge.due("THE TAPE", 3, x.count(3));
        }
        Edge.due("LAWS", 8, x.count(0));
        Edge.due("PRICES", 8, x.count(1));
    }

    @Says(in = "Promise 9", words = "FULL (THE TAPE stays)")
    static void p09FullAheadOfAFault() {
        NineDemands x = new NineDemands();
        for (int n = 0; n < 8; n++) {
            x.law(3, 1);
        }
        Edge.feed(x, "c=x");
        Edge.due("law of c=x", Edge.FULL, x.law(0, 1));
        Edge.due("THE TAPE", 3, x.count(3));
    }

    @Says(in = "Promise 9", words = "-10 less the FAULT (no ERROR; THE TAPE is empty then, too)")
    static void p09Fault() {
        for (int kind : new int[] {0, 1, 4}) {
            NineDemands x = new NineDemands();
            Edge.due("law of nothing", -10, x.law(kind, 1));
            Edge.due("law of c=1+x", -14, Edge.law(x, kind, 1, "c=1+x"));
            Edge.due("THE TAPE", 0, x.count(3));
            Edge.due("LAWS", 0, x.count(0));
            Edge.due("PRICES", 0, x.count(1));
            Edge.due("law of 50 bytes", -60, Edge.law(x, kind, 1, "c+".repeat(25)));
            Edge.due("THE TAPE", 0, x.count(3));
            Edge.dueTold(x, 0, 0, 0, 0, 0);
            Edge.due("the next one is LAW 0", 0, Edge.law(x, kind, 1, "c=1"));
        }
    }

    // ---- 10: price

    @Says(in = "Promise 10", words = "PRICE of a LAW becomes so much: what it was")
    static void p10WhatItWas() {
        NineDemands x = Edge.ofAllKinds();
        for (int n = 0; n < 6; n++) {
            Edge.due("price(" + n + ", 99)", 10 + n, x.price(n, 99));
            Edge.due("price(" + n + ", 0)", 99, x.price(n, 0));
            Edge.due("price(" + n + ", 1)", 0, x.price(n, 1));
        }
        Edge.due("together", 6, x.count(1));
    }

    @Says(in = "Promise 10", words = "BEYOND")
    static void p10NoSuchLaw() {
        NineDemands x = Edge.ofAllKinds();
        for (int law : NO_LAWS) {
            Edge.due("price(" + law + ", 1)", Edge.BEYOND, x.price(law, 1));
        }
        Edge.due("price(0, 1) of no LAW", Edge.BEYOND, new NineDemands().price(0, 1));
        Edge.due("together", 75, x.count(1));
    }

    @Says(in = "Promise 10", words = "BEYOND")
    static void p10NoSuchPrice() {
        NineDemands x = Edge.ofAllKinds();
        for (int price : NO_PRICES) {
            Edge.due("price(0, " + price + ")", Edge.BEYOND, x.price(0, price));
        }
        Edge.due("it stays", 10, x.price(0, 5));
    }

    // ---- 11: as

    @Says(in = "Promise 11", words = "A LAW as one of a KIND: how many CASES it has")
    static void p11HowManyCases() {
        NineDemands x = Edge.ofAllKinds();
        int[] cases = {12, 32, 14, 12, 8, 12};
        for (int n = 0; n < 6; n++) {
            Edge.due("as(" + n + ", " + n + ")", cases[n], x.as(n, n));
            Edge.due("as(" + n + ", 0)", cases[n], x.as(n, 0));
        }
        for (int n = 2; n <= 4; n++) {
            Edge.due("as(" + n + ", 1): its own CASES", cases[n], x.as(n, 1));
        }
    }

    @Says(in = "Promise 11", words = "BEYOND")
    static void p11NoSuchLaw() {
        NineDemands x = Edge.ofAllKinds();
        for (int law : NO_LAWS) {
            Edge.due("as(" + law + ", 0)", Edge.BEYOND, x.as(law, 0));
        }
    }

    @Says(in = "Promise 11", words = "BEYOND")
    static void p11NoSuchKind() {
        NineDemands x = Edge.ofAllKinds();
        for (int kind : NO_KINDS) {
            Edge.due("as(0, " + kind + ")", Edge.BEYOND, x.as(0, kind));
            Edge.due("as(5, " + kind + ")", Edge.BEYOND, x.as(5, kind));
        }
    }

    @Says(in = "Promise 11", words = "KIND: it isn't of that KIND, nor of one under it")
    static void p11NotOfThatKind() {
        NineDemands x = Edge.ofAllKinds();
        String[] not = {"12345", "2345", "345", "245", "235", "1234"};
        for (int n = 0; n < 6; n++) {
            for (char kind : not[n].toCharArray()) {
                Edge.due("as(" + n + ", " + kind + ")", Edge.KIND, x.as(n, kind - '0'));
            }
        }
    }

    // ---- 12: part

    @Says(in = "Promise 12", words = "Of CASE i of a LAW: what 0 h, 1 k")
    static void p12FirstAndLast() {
        NineDemands x = Edge.ofAllKinds();
        int[][] due = {
            {1, 0, 0, 1}, {1, 31, 11, 7}, {2, 0, 1, 2}, {2, 13, 10, 7}, {3, 0, 0, 3}, {3, 11, 11, 4}, {4, 0, 0, 4},
            {4, 7, 3, 11},
        };
        for (int[] one : due) {
            Edge.due("part(" + one[0] + ", " + one[1] + ", 0)", one[2], x.part(one[0], one[1], 0));
            Edge.due("part(" + one[0] + ", " + one[1] + ", 1)", one[3], x.part(one[0], one[1], 1));
        }
        Edge.due("part(0, 11, 0)", 11, x.part(0, 11, 0));
        Edge.due("part(5, 11, 0)", 11, x.part(5, 11, 0));
    }

    @Says(in = "Promise 12", words = "BEYOND: LAW, CASE, what")
    static void p12NoSuchLaw() {
        NineDemands x = Edge.ofAllKinds();
        for (int law : NO_LAWS) {
            Edge.due("part(" + law + ", 0, 0)", Edge.BEYOND, x.part(law, 0, 0));
            Edge.due("part(" + law + ", 0, 1)", Edge.BEYOND, x.part(law, 0, 1));
        }
    }

    @Says(in = "Promise 12", words = "BEYOND: LAW, CASE, what")
    static void p12NoSuchCase() {
        NineDemands x = Edge.ofAllKinds();
        int[] cases = {12, 32, 14, 12, 8, 12};
        for (int n = 0; n < 6; n++) {
            for (int i : new int[] {Edge.LEAST, -1, cases[n], cases[n] + 1, Edge.GREATEST}) {
                Edge.due("part(" + n + ", " + i + ", 0)", Edge.BEYOND, x.part(n, i, 0));
                Edge.due("part(" + n + ", " + i + ", 1)", Edge.BEYOND, x.part(n, i, 1));
            }
            Edge.due("the last CASE", 0, x.part(n, cases[n] - 1, 0) >= 0 ? 0 : 1);
        }
    }

    @Says(in = "Promise 12", words = "BEYOND: LAW, CASE, what")
    static void p12NoSuchPart() {
        NineDemands x = Edge.ofAllKinds();
        for (int what : new int[] {Edge.LEAST, -1, 2, 3, Edge.GREATEST}) {
            for (int n = 0; n < 6; n++) {
                Edge.due("part(" + n + ", 0, " + what + ")", Edge.BEYOND, x.part(n, 0, what));
            }
        }
    }

    @Says(in = "Promise 12", words = "NONE: there is no k")
    static void p12NoK() {
        NineDemands x = Edge.ofAllKinds();
        for (int h = 0; h < 12; h++) {
            Edge.due("part(0, " + h + ", 1)", Edge.NONE, x.part(0, h, 1));
            Edge.due("part(5, " + h + ", 1)", Edge.NONE, x.part(5, h, 1));
        }
    }

    // ---- 13: so

    @Says(in = "Promise 13", words = "1 if CHOICES c and d (d isn't looked at where there is no k) are so in CASE i of a LAW, else 0")
    static void p13OneOrNothing() {
        NineDemands x = new NineDemands();
        Edge.law(x, 1, 0, "(c*10+d)%12");
        for (int c = 1; c <= 3; c++) {
            for (int d = 1; d <= 3; d++) {
                Edge.due("so(0, 31, " + c + ", " + d + ")", c == 1 && d == 2 ? 0 : 1, x.so(0, 31, c, d));
            }
        }
    }

    @Says(in = "Promise 13", words = "d isn't looked at where there is no k")
    static void p13AnyD() {
        NineDemands x = Edge.ofAllKinds();
        for (int d : new int[] {Edge.LEAST, -1, 0, 1, 3, 4, Edge.GREATEST}) {
            Edge.due("so(0, 0, 3, " + d + ")", 1, x.so(0, 0, 3, d));
            Edge.due("so(5, 11, 2, " + d + ")", 1, x.so(5, 11, 2, d));
            Edge.due("so(5, 11, 3, " + d + ")", 0, x.so(5, 11, 3, d));
        }
    }

    @Says(in = "Promise 13", words = "BEYOND: LAW, CASE, c, then d")
    static void p13NoSuchLaw() {
        NineDemands x = Edge.ofAllKinds();
        for (int law : NO_LAWS) {
            Edge.due("so(" + law + ", 0, 1, 1)", Edge.BEYOND, x.so(law, 0, 1, 1));
        }
    }

    @Says(in = "Promise 13", words = "BEYOND: LAW, CASE, c, then d")
    static void p13NoSuchCase() {
        NineDemands x = Edge.ofAllKinds();
        int[] cases = {12, 32, 14, 12, 8, 12};
        for (int n = 0; n < 6; n++) {
            for (int i : new int[] {Edge.LEAST, -1, cases[n], cases[n] + 1, Edge.GREATEST}) {
                Edge.due("so(" + n + ", " + i + ", 1, 1)", Edge.BEYOND, x.so(n, i, 1, 1));
            }
            Edge.due("the last CASE of " + n, 1, x.so(n, cases[n] - 1, 1, n == 3 ? 2 : 1));
        }
    }

    @Says(in = "Promise 13", words = "BEYOND: LAW, CASE, c, then d")
    static void p13NoChoices() {
        NineDemands x = Edge.ofAllKinds();
        for (int no : new int[] {Edge.LEAST, -1, 0, 4, Edge.GREATEST}) {
            for (int n = 0; n < 6; n++) {
                Edge.due("so(" + n + ", 0, " + no + ", 1)", Edge.BEYOND, x.so(n, 0, no, 1));
            }
            for (int n = 1; n <= 4; n++) {
                Edge.due("so(" + n + ", 0, 1, " + no + ")", Edge.BEYOND, x.so(n, 0, 1, no));
            }
        }
    }

    // ---- 14 and 15: breach, kept

    @Says(in = "Promise 14", words = "The first CASE of a LAW in which THE TOLD RULE doesn't keep it")
    static void p14TheFirst() {
        NineDemands x = Edge.ofAllKinds();
        x.form(0);
        x.choose(11, 3);
        Edge.due("SINGLE: the last HALL", 11, x.breach(5));
        x.choose(4, 3);
        Edge.due("SINGLE: HALL 4 is ahead", 4, x.breach(5));
        Edge.due("TURNED: HALL 0 and 3", 0, x.breach(3));
        Edge.due("ALIKE isn't touched", Edge.NONE, x.breach(2));
        x.choose(7, 2);
        Edge.due("ALIKE: 7 and 10", 6, x.breach(2));
        x.choose(9, 2);
        Edge.due("ALIKE: 7 and 10 still", 6, x.breach(2));
        x.choose(10, 2);
        Edge.due("ALIKE: all three", Edge.NONE, x.breach(2));
    }

    @Says(in = "Promise 14", words = "The first CASE of a LAW in which THE TOLD RULE doesn't keep it")
    static void p14TheLast() {
        NineDemands x = new NineDemands();
        Edge.law(x, 1, 0, "c=3|s=2|i<2|a");
        Edge.law(x, 4, 0, "d=3|p&q&w=0|!(p&q)");
        x.choose(11, 1);
        Edge.due("MOVED: 11 and 7", 31, x.breach(0));
        Edge.due("COMES: 3 and 11", 7, x.breach(1));
    }

    @Says(in = "Promise 14", words = "BEYOND")
    static void p14NoSuchLaw() {
        NineDemands x = Edge.ofAllKinds();
        for (int law : NO_LAWS) {
            Edge.due("breach(" + law + ")", Edge.BEYOND, x.breach(law));
        }
    }

    @Says(in = "Promise 14", words = "NONE: it keeps it")
    static void p14Kept() {
        NineDemands x = Edge.ofAllKinds();
        for (int n = 0; n < 5; n++) {
            Edge.due("breach(" + n + ") of always both", Edge.NONE, x.breach(n));
        }
        x.form(3);
        Edge.due("breach(5) of what PERSON 0 wants", Edge.NONE, x.breach(5));
    }

    @Says(in = "Promise 15", words = "Which LAWS THE TOLD RULE keeps, as bits")
    static void p15NoneAndAll() {
        Edge.due("no LAWS", 0, new NineDemands().kept());
        NineDemands x = new NineDemands();
        for (int n = 0; n < 8; n++) {
            x.law(2 + n % 2, 0);
        }
        Edge.due("all 8", 255, x.kept());
        x.form(0);
        Edge.due("ALIKE of them", 85, x.kept());
        x.form(3);
        Edge.due("TURNED of them", 170, x.kept());
        x.choose(0, 2);
        Edge.due("none of them", 0, x.kept());
    }

    public static void main(String[] args) {
        Edge.run(EdgeLawsTests.class);
    }
}
