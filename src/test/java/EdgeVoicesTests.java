import java.util.HashMap;
import java.util.Map;

/** Terms 5 and promises 30 to 40, sentence by sentence: voices, sheets, images, what is told. */
public final class EdgeVoicesTests {
    private static final int BIDS = 0;
    private static final int BARS = 1;
    private static final int YIELDS = 2;
    private static final int STANDS = 3;
    private static final int[] NO_SHEETS = {Edge.LEAST, -1, 4, 5, Edge.GREATEST};
    /** None of these is a SET where there are five LAWS. */
    private static final int[] NO_SETS = {Edge.LEAST, -1, 32, 33, 64, 255, 256, Edge.GREATEST};

    /** LAWS 1 to 6 are of KINDS 0 to 5 with PRICES 20 to 25; LAW 0 keeps number and KIND apart. */
    private static NineDemands speakers() {
        NineDemands x = new NineDemands();
        x.law(5, 9);
        for (int kind = 0; kind < 6; kind++) {
            boolean hasText = kind == 0 || kind == 1 || kind == 4;
            Edge.law(x, kind, 20 + kind, hasText ? "1" : "");
        }
        return x;
    }

    private static void says(int kind, int act, int x, int want, int... bodies) {
        NineDemands village = speakers();
        String call = "voice(" + (kind + 1) + ", " + act + ", " + x + ")";
        Edge.due(call, want, village.voice(kind + 1, act, x));
        Edge.due("BODIES of " + call, bodies.length, village.count(5));
        for (int i = 0; i < bodies.length; i++) {
            Edge.due("trace(" + i + ") of " + call, bodies[i], village.trace(i));
        }
    }

    // ---- Terms 5: the BODIES

    @Says(in = "Terms 5", words = "with a number x (ints that go round)")
    static void t5GoRound() {
        says(0, BIDS, Edge.GREATEST, Edge.LEAST, 10);
        says(0, YIELDS, Edge.LEAST, Edge.GREATEST - 19, 12);
        says(0, BARS, Edge.GREATEST - 1, -2, 11, 10);
        says(0, BARS, 1 << 30, Edge.LEAST + 2, 11, 10);
        says(3, YIELDS, Edge.LEAST + 23, Edge.LEAST, 40, 12);
        says(2, STANDS, Edge.GREATEST, (Edge.LEAST + 3 - 1) * 2 + (Edge.LEAST - 22) ^ Edge.LEAST - 22,
            31, 13, 20, 11, 30, 10, 12, 12);
        says(5, YIELDS, 1 << 30, ((1 << 30) - 25) * 2, 61, 12, 60, 10);
    }

    @Says(in = "Terms 5", words = "n is its number, p its PRICE")
    static void t5NumberAndPrice() {
        NineDemands x = speakers();
        Edge.due("LAW 1 bids", 101, x.voice(1, BIDS, 100));
        Edge.due("LAW 1 yields", 80, x.voice(1, YIELDS, 100));
        x.price(1, 99);
        Edge.due("LAW 1 yields with another PRICE", 1, x.voice(1, YIELDS, 100));
        x.price(1, 0);
        Edge.due("LAW 1 yields with PRICE 0", 100, x.voice(1, YIELDS, 100));
        Edge.law(x, 0, 0, "1");
        Edge.due("LAW 7 bids", 107, x.voice(7, BIDS, 100));
    }

    @Says(in = "Terms 5", words = "0 bids, 1 bars, 2 yields, 3 stands")
    static void t5Acts() {
        NineDemands x = speakers();
        int[] first = {10, 11, 12, 13};
        for (int act = 0; act < 4; act++) {
            x.voice(1, act, 0);
            Edge.due("the first BODY of act " + act, first[act], x.trace(0));
        }
    }

    @Says(in = "Terms 5", words = "BODIES: LAW: 10 bids: x + n")
    static void t5Body10() {
        says(0, BIDS, 100, 101, 10);
        says(1, BIDS, 100, 102, 10);
        says(3, BIDS, 100, 104, 10);
        says(4, BIDS, 100, 105, 10);
    }

    @Says(in = "Terms 5", words = "11 bars: bids(x) * 2")
    static void t5Body11() {
        says(0, BARS, 100, 202, 11, 10);
        says(5, BARS, 100, (106 ^ 5) * 2, 11, 60, 10);
    }

    @Says(in = "Terms 5", words = "12 yields: x - p")
    static void t5Body12() {
        says(0, YIELDS, 100, 80, 12);
        says(1, YIELDS, 100, 79, 12);
        says(2, YIELDS, 100, 78, 12);
        says(4, YIELDS, 100, 76, 12);
    }

    @Says(in = "Terms 5", words = "13 stands: bars(x) ^ yields(x)")
    static void t5Body13() {
        says(0, STANDS, 100, 202 ^ 80, 13, 11, 10, 12);
        says(1, STANDS, 100, 204 + 79 ^ 79, 13, 20, 11, 10, 12, 12);
        says(3, STANDS, 100, 208 - 77 ^ -77, 13, 20, 11, 10, 40, 12, 40, 12);
        says(5, STANDS, 100, (106 ^ 5) * 2 ^ 75 * 2, 13, 11, 60, 10, 61, 12, 60, 10);
    }

    @Says(in = "Terms 5", words = "MOVED: 20 bars: super.bars(x) + yields(x)")
    static void t5Body20() {
        says(1, BARS, 100, 204 + 79, 20, 11, 10, 12);
        says(2, BARS, 100, 2 * 102 + 78, 20, 11, 30, 10, 12);
        says(3, BARS, 100, 208 - 77, 20, 11, 10, 40, 12);
    }

    @Says(in = "Terms 5", words = "ALIKE: 30 bids: super.bids(x) - 1")
    static void t5Body30() {
        says(2, BIDS, 100, 102, 30, 10);
    }

    @Says(in = "Terms 5", words = "31 stands: super.stands(x + 1)")
    static void t5Body31() {
        says(2, STANDS, 100, 2 * 103 + 79 ^ 79, 31, 13, 20, 11, 30, 10, 12, 12);
    }

    @Says(in = "Terms 5", words = "TURNED: 40 yields: -super.yields(x)")
    static void t5Body40() {
        says(3, YIELDS, 100, -77, 40, 12);
        says(3, YIELDS, -100, 123, 40, 12);
    }

    @Says(in = "Terms 5", words = "COMES: 50 stands: yields(x) - super.stands(x)")
    static void t5Body50() {
        says(4, STANDS, 100, 76 - (2 * 81 + 52 ^ 76), 50, 12, 13, 51, 20, 11, 10, 12, 12);
    }

    @Says(in = "Terms 5", words = "51 bars: super.bars(x - p)")
    static void t5Body51() {
        says(4, BARS, 100, 2 * 81 + 52, 51, 20, 11, 10, 12);
    }

    @Says(in = "Terms 5", words = "SINGLE: 60 bids: super.bids(x) ^ 5")
    static void t5Body60() {
        says(5, BIDS, 100, 106 ^ 5, 60, 10);
    }

    @Says(in = "Terms 5", words = "61 yields: super.yields(x) * bids(1)")
    static void t5Body61() {
        says(5, YIELDS, 100, 75 * 2, 61, 12, 60, 10);
    }

    @Says(in = "Terms 5", words = "bids(..) is the BODY of its KIND, or of the next KIND above that has one")
    static void t5OwnKindOrAbove() {
        says(5, BARS, 0, (6 ^ 5) * 2, 11, 60, 10);
        says(2, BARS, 0, 4 - 22, 20, 11, 30, 10, 12);
        says(4, BIDS, 0, 5, 10);
    }

    @Says(in = "Terms 5", words = "super.bids(..) that from the KIND above the BODY's on")
    static void t5AboveTheBody() {
        says(4, STANDS, 0, -24 - (2 * (-24 + 5) + -48 ^ -24), 50, 12, 13, 51, 20, 11, 10, 12, 12);
        says(2, STANDS, 0, 2 * 3 - 21 ^ -21, 31, 13, 20, 11, 30, 10, 12, 12);
    }

    @Says(in = "Terms 5", words = "THE TRACE: the numbers of BODIES of the latest voice()")
    static void t5OnlyTheLatest() {
        NineDemands x = speakers();
        x.voice(5, STANDS, 1);
        Edge.due("nine", 9, x.count(5));
        x.voice(1, BIDS, 1);
        Edge.due("one", 1, x.count(5));
        Edge.due("trace(0)", 10, x.trace(0));
        Edge.due("trace(1)", Edge.NONE, x.trace(1));
    }

    @Says(in = "Terms 5", words = "as they began (what stands left is worked out first)")
    static void t5LeftFirst() {
        says(0, STANDS, 0, 2 ^ -20, 13, 11, 10, 12);
        says(5, YIELDS, 0, -25 * 2, 61, 12, 60, 10);
        says(3, BARS, 0, 8 + 23, 20, 11, 10, 40, 12);
    }

    @Says(in = "Terms 5", words = "the first 40")
    static void t5NeverMoreThanForty() {
        NineDemands x = speakers();
        for (int law = 0; law < 7; law++) {
            for (int act = 0; act < 4; act++) {
                x.voice(law, act, 1);
                int bodies = x.count(5);
                Edge.due("some, and not more than 40", 1, bodies >= 1 && bodies <= 40 ? 1 : 0);
                Edge.due("the last", 1, x.trace(bodies - 1) > 0 ? 1 : 0);
                Edge.due("trace(40)", Edge.NONE, x.trace(40));
            }
        }
    }

    // ---- 30 and 31: voice, trace

    @Says(in = "Promise 30", words = "A VOICE of a LAW: any number")
    static void p30EvenOneThatLooksLikeAnError() {
        NineDemands x = speakers();
        for (int k = 1; k <= 5; k++) {
            Edge.due("yields", Edge.LOW - k, x.voice(1, YIELDS, Edge.LOW - k + 20));
        }
        Edge.due("BODIES", 1, x.count(5));
        Edge.dueTold(x, 0, 0, 0, 0, 0);
    }

    @Says(in = "Promise 30", words = "BEYOND")
    static void p30NoSuchLaw() {
        NineDemands x = speakers();
        for (int law : new int[] {Edge.LEAST, -1, 7, 8, Edge.GREATEST}) {
            for (int act = 0; act < 4; act++) {
                Edge.due("voice(" + law + ", " + act + ", 1)", Edge.BEYOND, x.voice(law, act, 1));
            }
        }
        Edge.due("voice(0, 0, 1) without LAWS", Edge.BEYOND, new NineDemands().voice(0, 0, 1));
    }

    @Says(in = "Promise 30", words = "BEYOND")
    static void p30NoSuchVoice() {
        NineDemands x = speakers();
        for (int act : new int[] {Edge.LEAST, -1, 4, 5, Edge.GREATEST}) {
            for (int law = 0; law < 7; law++) {
                Edge.due("voice(" + law + ", " + act + ", 1)", Edge.BEYOND, x.voice(law, act, 1));
            }
        }
        Edge.due("BODIES", 0, x.count(5));
    }

    @Says(in = "Promise 31", words = "THE TRACE's i-th")
    static void p31Each() {
        NineDemands x = speakers();
        x.voice(5, STANDS, 7);
        int[] bodies = {50, 12, 13, 51, 20, 11, 10, 12, 12};
        for (int i = 0; i < bodies.length; i++) {
            Edge.due("trace(" + i + ")", bodies[i], x.trace(i));
        }
    }

    @Says(in = "Promise 31", words = "NONE: there is none such")
    static void p31NoneSuch() {
        NineDemands x = speakers();
        Edge.due("ahead of any voice", Edge.NONE, x.trace(0));
        x.voice(1, STANDS, 7);
        Edge.due("trace(3), the last", 12, x.trace(3));
        for (int i : new int[] {Edge.LEAST, -1, 4, 39, 40, 41, Edge.GREATEST}) {
            Edge.due("trace(" + i + ")", Edge.NONE, x.trace(i));
        }
    }

    // ---- 32: sheet

    @Says(in = "Promise 32", words = "A SHEET has n numbers, all 0, of so many bits")
    static void p32AllNothing() {
        for (int bits : new int[] {8, 16, 32}) {
            NineDemands x = new NineDemands();
            Edge.sheet(x, 0, bits, 1, 1, 1, 1, 1, 1);
            Edge.due("again", 1, x.sheet(0, bits, 4));
            for (int i = 0; i < 4; i++) {
                Edge.due("number " + i + " is 0", Edge.KIND, x.block(0));
                x.put(0, i, 1);
            }
            Edge.due("no other number is there", 4, x.block(0));
            Edge.due("no other number is there", Edge.BEYOND, x.put(0, 4, 1));
        }
    }

    @Says(in = "Promise 32", words = "A SHEET has n numbers")
    static void p32NoneToForty() {
        NineDemands x = new NineDemands();
        for (int n : new int[] {0, 1, 39, 40}) {
            Edge.due("sheet(3, 16, " + n + ")", 1, x.sheet(3, 16, n));
            Edge.due("no number " + n, Edge.BEYOND, x.put(3, n, 1));
            Edge.due("the last", n == 0 ? Edge.BEYOND : 1, x.put(3, n - 1, 1));
        }
    }

    @Says(in = "Promise 32", words = "0: it is missing, n doesn't matter")
    static void p32Missing() {
        NineDemands x = new NineDemands();
        for (int n : new int[] {Edge.LEAST, -1, 0, 1, 40, 41, Edge.GREATEST}) {
            x.sheet(2, 8, 3);
            Edge.due("sheet(2, 0, " + n + ")", 1, x.sheet(2, 0, n));
            Edge.due("put(2, 0, 1)", Edge.NONE, x.put(2, 0, 1));
            Edge.due("sheet(2, 0, " + n + ") once more", 1, x.sheet(2, 0, n));
        }
        Edge.dueTold(x, 0, 7, 0, 0, 0);
    }

    @Says(in = "Promise 32", words = "BEYOND")
    static void p32NoSuchSheet() {
        NineDemands x = new NineDemands();
        for (int sheet : NO_SHEETS) {
            for (int bits : new int[] {0, 8, 16, 32}) {
                Edge.due("sheet(" + sheet + ", " + bits + ", 1)", Edge.BEYOND, x.sheet(sheet, bits, 1));
            }
        }
    }

    @Says(in = "Promise 32", words = "BEYOND")
    static void p32NoSuchBits() {
        NineDemands x = new NineDemands();
        for (int bits : new int[] {Edge.LEAST, -8, -1, 1, 7, 9, 15, 17, 24, 31, 33, 64, Edge.GREATEST}) {
            Edge.due("sheet(0, " + bits + ", 1)", Edge.BEYOND, x.sheet(0, bits, 1));
        }
        Edge.due("still missing", Edge.NONE, x.put(0, 0, 0));
    }

    @Says(in = "Promise 32", words = "BEYOND")
    static void p32TooMany() {
        NineDemands x = new NineDemands();
        for (int n : new int[] {41, 42, 256, Edge.GREATEST}) {
            for (int bits : new int[] {8, 16, 32}) {
                Edge.due("sheet(0, " + bits + ", " + n + ")", Edge.BEYOND, x.sheet(0, bits, n));
            }
        }
        Edge.due("still missing", Edge.NONE, x.put(0, 0, 0));
    }

    @Says(in = "Promise 32", words = "STATE: n is below 0 (ahead of BEYOND of n)")
    static void p32BelowNothing() {
        NineDemands x = new NineDemands();
        for (int n : new int[] {-1, -2, -41, Edge.LEAST}) {
            for (int bits : new int[] {8, 16, 32}) {
                Edge.due("sheet(0, " + bits + ", " + n + ")", Edge.STATE, x.sheet(0, bits, n));
            }
            Edge.due("no such SHEET is asked first", Edge.BEYOND, x.sheet(4, 8, n));
            Edge.due("no such bits are asked first", Edge.BEYOND, x.sheet(0, 9, n));
        }
        Edge.due("still missing", Edge.NONE, x.put(0, 0, 0));
    }

    // ---- 33: put

    private static void dueCut(int bits, int v, int want) {
        NineDemands x = new NineDemands();
        x.sheet(0, bits, 1);
        Edge.due("put(0, 0, " + v + ")", 1, x.put(0, 0, v));
        int answer = x.block(0);
        Edge.due(v + " in " + bits + " bits", want, answer == 1 ? x.chosen(0) : answer);
    }

    @Says(in = "Promise 33", words = "becomes v (its lowest bits)")
    static void p33EightBits() {
        dueCut(8, 1, 1);
        dueCut(8, 256 + 2, 2);
        dueCut(8, 65536 + 3, 3);
        dueCut(8, -256 + 1, 1);
        dueCut(8, Edge.LEAST + 2, 2);
        dueCut(8, 128 + 2, Edge.KIND);
        dueCut(8, 256, Edge.KIND);
        dueCut(8, -1, Edge.KIND);
    }

    @Says(in = "Promise 33", words = "becomes v (its lowest bits)")
    static void p33SixteenBits() {
        dueCut(16, 1, 1);
        dueCut(16, 65536 + 2, 2);
        dueCut(16, -65536 + 3, 3);
        dueCut(16, Edge.LEAST + 1, 1);
        dueCut(16, 256 + 2, Edge.KIND);
        dueCut(16, 32768 + 2, Edge.KIND);
        dueCut(16, 65536, Edge.KIND);
    }

    @Says(in = "Promise 33", words = "becomes v (its lowest bits)")
    static void p33ThirtyTwoBits() {
        dueCut(32, 3, 3);
        dueCut(32, 256 + 2, Edge.KIND);
        dueCut(32, 65536 + 2, Edge.KIND);
        dueCut(32, Edge.LEAST + 2, Edge.KIND);
        dueCut(32, Edge.GREATEST, Edge.KIND);
    }

    @Says(in = "Promise 33", words = "Number i of a SHEET becomes v")
    static void p33OnlyThatNumber() {
        NineDemands x = new NineDemands();
        Edge.sheet(x, 0, 8, 1, 1, 1);
        Edge.sheet(x, 1, 8, 3, 3, 3);
        x.put(0, 1, 2);
        x.block(0);
        Edge.dueRule("behind SHEET 0", "121333333333", x);
        x.block(1);
        Edge.dueRule("behind SHEET 1", "333333333333", x);
    }

    @Says(in = "Promise 33", words = "BEYOND: no such SHEET")
    static void p33NoSuchSheet() {
        NineDemands x = new NineDemands();
        for (int sheet : NO_SHEETS) {
            Edge.due("put(" + sheet + ", 0, 1)", Edge.BEYOND, x.put(sheet, 0, 1));
        }
    }

    @Says(in = "Promise 33", words = "NONE: it is missing")
    static void p33Missing() {
        NineDemands x = new NineDemands();
        for (int sheet = 0; sheet < 4; sheet++) {
            for (int i : new int[] {-1, 0, 40, Edge.GREATEST}) {
                Edge.due("put(" + sheet + ", " + i + ", 1)", Edge.NONE, x.put(sheet, i, 1));
            }
        }
    }

    @Says(in = "Promise 33", words = "BEYOND: no such number")
    static void p33NoSuchNumber() {
        NineDemands x = new NineDemands();
        x.sheet(0, 8, 3);
        for (int i : new int[] {Edge.LEAST, -1, 3, 4, 39, 40, Edge.GREATEST}) {
            Edge.due("put(0, " + i + ", 1)", Edge.BEYOND, x.put(0, i, 1));
        }
        Edge.due("put(0, 2, 1), the last", 1, x.put(0, 2, 1));
        x.sheet(0, 8, 0);
        Edge.due("put(0, 0, 1) in an empty one", Edge.BEYOND, x.put(0, 0, 1));
    }

    // ---- 34: move

    private static void dueSheet(NineDemands x, int sheet, String want) {
        x.form(2);
        Edge.due("block(" + sheet + ")", want.length(), x.block(sheet));
        Edge.dueRule("by SHEET " + sheet, (want + "333333333333").substring(0, 12), x);
    }

    /** SHEET 0 is 1 2 3 1 2 1, SHEET 1 is 3 3 3 3, both of 8 bits; SHEET 2 is 3 3 of 16, 3 is missing. */
    private static NineDemands withSheets() {
        NineDemands x = new NineDemands();
        Edge.sheet(x, 0, 8, 1, 2, 3, 1, 2, 1);
        Edge.sheet(x, 1, 8, 3, 3, 3, 3);
        Edge.sheet(x, 2, 16, 3, 3);
        return x;
    }

    @Says(in = "Promise 34", words = "n numbers of a SHEET, from number i on, come to another one (or the same), from its number j on")
    static void p34ToAnother() {
        NineDemands x = withSheets();
        Edge.due("move(0, 3, 1, 1, 2)", 2, x.move(0, 3, 1, 1, 2));
        dueSheet(x, 1, "3123");
        dueSheet(x, 0, "123121");
        Edge.due("all that are there", 4, x.move(1, 0, 0, 2, 4));
        dueSheet(x, 0, "123123");
        Edge.due("the last to the first", 1, x.move(0, 5, 1, 0, 1));
        Edge.due("the first to the last", 1, x.move(0, 0, 1, 3, 1));
        dueSheet(x, 1, "3121");
    }

    @Says(in = "Promise 34", words = "(or the same), from its number j on, as they all were")
    static void p34WithinOne() {
        NineDemands x = withSheets();
        Edge.due("up", 5, x.move(0, 0, 0, 1, 5));
        dueSheet(x, 0, "112312");
        x = withSheets();
        Edge.due("down", 5, x.move(0, 1, 0, 0, 5));
        dueSheet(x, 0, "231211");
        Edge.due("where they are", 6, x.move(0, 0, 0, 0, 6));
        dueSheet(x, 0, "231211");
    }

    @Says(in = "Promise 34", words = "n numbers of a SHEET")
    static void p34NoneAtAll() {
        NineDemands x = withSheets();
        Edge.due("none", 0, x.move(0, 0, 1, 0, 0));
        Edge.due("none, behind the last ones", 0, x.move(0, 6, 1, 4, 0));
        dueSheet(x, 0, "123121");
        dueSheet(x, 1, "3333");
        x.sheet(1, 8, 0);
        Edge.due("none to an empty one", 0, x.move(0, 2, 1, 0, 0));
        Edge.due("one to an empty one", Edge.BEYOND, x.move(0, 2, 1, 0, 1));
    }

    @Says(in = "Promise 34", words = "BEYOND: no such SHEET")
    static void p34NoSuchSheet() {
        NineDemands x = withSheets();
        for (int sheet : NO_SHEETS) {
            Edge.due("move from " + sheet, Edge.BEYOND, x.move(sheet, 0, 1, 0, 1));
            Edge.due("move to " + sheet, Edge.BEYOND, x.move(0, 0, sheet, 0, 1));
            Edge.due("ahead of NONE of the other", Edge.BEYOND, x.move(sheet, 0, 3, 0, 1));
            Edge.due("ahead of NONE of the one", Edge.BEYOND, x.move(3, 0, sheet, 0, 1));
        }
    }

    @Says(in = "Promise 34", words = "NONE: one is missing")
    static void p34Missing() {
        NineDemands x = withSheets();
        Edge.due("move from 3", Edge.NONE, x.move(3, 0, 0, 0, 1));
        Edge.due("move to 3", Edge.NONE, x.move(0, 0, 3, 0, 1));
        Edge.due("move from 3 to 3", Edge.NONE, x.move(3, 0, 3, 0, 0));
        Edge.due("ahead of BEYOND of n", Edge.NONE, x.move(3, -1, 0, 99, -1));
    }

    @Says(in = "Promise 34", words = "KIND: they are of unlike bits")
    static void p34UnlikeBits() {
        int[] bits = {8, 16, 32};
        for (int one : bits) {
            for (int other : bits) {
                NineDemands x = new NineDemands();
                Edge.sheet(x, 0, one, 1, 2);
                Edge.sheet(x, 1, other, 3, 3);
                Edge.due("move from " + one + " to " + other, one == other ? 2 : Edge.KIND, x.move(0, 0, 1, 0, 2));
                dueSheet(x, 1, one == other ? "12" : "33");
                if (one != other) {
                    Edge.due("none of them", Edge.KIND, x.move(0, 0, 1, 0, 0));
                    Edge.due("ahead of BEYOND of n", Edge.KIND, x.move(0, -1, 1, 99, -1));
                }
            }
        }
    }

    @Says(in = "Promise 34", words = "BEYOND: n, i, or j is below 0")
    static void p34BelowNothing() {
        NineDemands x = withSheets();
        for (int below : new int[] {-1, -2, Edge.LEAST}) {
            Edge.due("n " + below, Edge.BEYOND, x.move(0, 0, 1, 0, below));
            Edge.due("n " + below + " from 2 on", Edge.BEYOND, x.move(0, 2, 1, 2, below));
            Edge.due("i " + below, Edge.BEYOND, x.move(0, below, 1, 0, 1));
            Edge.due("j " + below, Edge.BEYOND, x.move(0, 0, 1, below, 1));
            Edge.due("i " + below + " of none", Edge.BEYOND, x.move(0, below, 1, 0, 0));
            Edge.due("j " + below + " of none", Edge.BEYOND, x.move(0, 0, 1, below, 0));
        }
        dueSheet(x, 1, "3333");
    }

    @Says(in = "Promise 34", words = "or they don't stand there")
    static void p34DoNotStandThere() {
        NineDemands x = withSheets();
        Edge.due("seven of six", Edge.BEYOND, x.move(0, 0, 0, 0, 7));
        Edge.due("four from 3 on of six", Edge.BEYOND, x.move(0, 3, 1, 0, 4));
        Edge.due("three from 3 on of six", 3, x.move(0, 3, 1, 0, 3));
        Edge.due("four to 1 on of four", Edge.BEYOND, x.move(0, 0, 1, 1, 4));
        Edge.due("five to four", Edge.BEYOND, x.move(0, 0, 1, 0, 5));
        Edge.due("none from 7 on of six", Edge.BEYOND, x.move(0, 7, 1, 0, 0));
        Edge.due("none to 5 on of four", Edge.BEYOND, x.move(0, 0, 1, 5, 0));
        Edge.due("greatest n", Edge.BEYOND, x.move(0, 1, 1, 1, Edge.GREATEST));
        Edge.due("greatest i", Edge.BEYOND, x.move(0, Edge.GREATEST, 1, 0, 1));
        Edge.due("greatest j", Edge.BEYOND, x.move(0, 0, 1, Edge.GREATEST, 1));
        Edge.due("all greatest", Edge.BEYOND, x.move(0, Edge.GREATEST, 1, Edge.GREATEST, Edge.GREATEST));
        dueSheet(x, 1, "1213");
        dueSheet(x, 0, "123121");
    }

    @Says(in = "Promise 34", words = "or they don't stand there")
    static void p34AllForty() {
        NineDemands x = new NineDemands();
        x.sheet(0, 8, 40);
        x.sheet(1, 8, 40);
        x.put(0, 39, 2);
        Edge.due("all forty", 40, x.move(0, 0, 1, 0, 40));
        Edge.due("41", Edge.BEYOND, x.move(0, 0, 1, 0, 41));
        Edge.due("the last to the first", 1, x.move(1, 39, 1, 0, 1));
        for (int i = 1; i < 12; i++) {
            x.put(1, i, 1);
        }
        Edge.due("block(1)", 12, x.block(1));
        Edge.dueRule("behind it", "211111111111", x);
    }

    // ---- 35 and 36: image, restore

    @Says(in = "Promise 35", words = "how often that was done")
    static void p35HowOften() {
        NineDemands x = new NineDemands();
        for (int n = 1; n <= 5; n++) {
            Edge.due("image()", n, x.image());
        }
        x.restore();
        Edge.due("image() behind restore()", 6, x.image());
    }

    @Says(in = "Promise 35", words = "is kept as an IMAGE")
    static void p35WhatIsKept() {
        NineDemands x = Edge.five();
        x.form(3);
        Edge.feed(x, "c=");
        x.tell(1);
        x.tell(2);
        x.image();
        x.law(5, 80);
        x.price(0, 99);
        x.form(1);
        Edge.feed(x, "4");
        x.learn(0);
        Edge.due("restore()", 5, x.restore());
        Edge.due("LAWS", 5, x.count(0));
        Edge.due("PRICES", 26, x.count(1));
        Edge.dueRule("behind restore()", "121212121212", x);
        Edge.due("bytes", 2, x.count(3));
        Edge.due("numbers that wait", 2, x.count(4));
        Edge.due("they are 1 and 2", 2, x.learn(0));
        Edge.feed(x, "2");
        Edge.due("THE TAPE is c=2", 5, x.law(0, 0));
        Edge.due("THE TAPE is c=2", 1, x.so(5, 0, 2, 0));
        Edge.due("THE TAPE is c=2", 0, x.so(5, 0, 1, 0));
    }

    @Says(in = "Promise 35", words = "is kept as an IMAGE")
    static void p35OtherBytesAndNumbersSince() {
        NineDemands x = new NineDemands();
        Edge.feed(x, "c=3");
        x.tell(1);
        x.tell(1);
        x.tell(2);
        x.image();
        x.law(0, 0);
        x.learn(0);
        Edge.feed(x, "abcspqr");
        for (int n = 0; n < 7; n++) {
            x.tell(9);
        }
        Edge.due("restore()", 0, x.restore());
        Edge.due("bytes", 3, x.count(3));
        Edge.due("THE TAPE is c=3", 0, x.law(0, 0));
        Edge.due("c=3 with both", 1, x.so(0, 0, 3, 1));
        Edge.due("c=3 with B", 0, x.so(0, 0, 2, 1));
        Edge.due("numbers that wait", 3, x.count(4));
        Edge.due("they are 1, 1, 2", 3, x.learn(0));
    }

    @Says(in = "Promise 35", words = "(but SHEETS, THE TRACE, what told() tells, and how often this was done)")
    static void p35WhatIsNotKept() {
        NineDemands x = Edge.five();
        Edge.sheet(x, 0, 8, 1);
        x.sheet(1, 8, 1);
        x.voice(0, BIDS, 1);
        x.image();
        Edge.sheet(x, 0, 16, 2, 2);
        x.sheet(1, 0, 0);
        x.voice(0, STANDS, 1);
        x.told(0);
        x.restore();
        Edge.due("told(1)", 1, x.told(1));
        Edge.due("SHEET 0 has two numbers", 2, x.block(0));
        Edge.due("SHEET 1 is missing", Edge.NONE, x.block(1));
        Edge.due("BODIES", 4, x.count(5));
        Edge.due("trace(0)", 13, x.trace(0));
        Edge.due("image()", 2, x.image());
    }

    @Says(in = "Promise 35", words = "in place of one ahead")
    static void p35TheLatest() {
        NineDemands x = new NineDemands();
        x.form(0);
        x.law(2, 5);
        x.image();
        x.form(1);
        x.law(3, 6);
        x.image();
        x.form(2);
        x.law(5, 7);
        Edge.due("restore()", 2, x.restore());
        Edge.dueRule("behind restore()", "222222222222", x);
        Edge.due("PRICES", 11, x.count(1));
        Edge.due("as(1, 3)", 12, x.as(1, 3));
    }

    @Says(in = "Promise 35", words = "All")
    static void p35FullAndEmpty() {
        NineDemands x = new NineDemands();
        Edge.due("an IMAGE of nothing", 1, x.image());
        for (int n = 0; n < 8; n++) {
            x.law(5, 99);
        }
        for (int n = 0; n < 20; n++) {
            x.tell(n);
        }
        Edge.feed(x, "c".repeat(50));
        Edge.due("restore()", 0, x.restore());
        for (int what : new int[] {0, 1, 3, 4}) {
            Edge.due("count(" + what + ")", 0, x.count(what));
        }
        Edge.due("rules(1)", Edge.BEYOND, x.rules(1));
        Edge.due("the next LAW is 0", 0, x.law(2, 1));
        for (int n = 1; n < 8; n++) {
            x.law(5, 99);
        }
        for (int n = 0; n < 20; n++) {
            x.tell(1);
        }
        Edge.feed(x, "c".repeat(50));
        Edge.due("an IMAGE of all that can be", 2, x.image());
        x.learn(0);
        Edge.due("restore()", 8, x.restore());
        Edge.due("PRICES", 694, x.count(1));
        Edge.due("bytes", 50, x.count(3));
        Edge.due("numbers that wait", 20, x.count(4));
        Edge.due("tell(1)", Edge.FULL, x.tell(1));
        Edge.due("law(5, 0)", Edge.FULL, x.law(5, 0));
        Edge.due("feed(0, 1)", Edge.FULL, x.feed(0, 1));
    }

    @Says(in = "Promise 36", words = "All is as the IMAGE has it, which stays: how many LAWS")
    static void p36ItStays() {
        NineDemands x = Edge.five();
        x.form(5);
        x.image();
        for (int n = 0; n < 3; n++) {
            x.write(0);
            x.price(2, 90);
            x.law(5, 1);
            Edge.due("restore()", 5, x.restore());
            Edge.dueRule("behind restore()", "133211121222", x);
            Edge.due("PRICES", 26, x.count(1));
        }
    }

    @Says(in = "Promise 36", words = "All is as the IMAGE has it")
    static void p36OtherLawsOfTheSameNumber() {
        NineDemands x = Edge.withTexts("c<3");
        x.image();
        Edge.law(x, 0, 1, "c>1");
        Edge.due("rules(2)", 4096, x.rules(2));
        Edge.due("rules(3)", 1, x.rules(3));
        Edge.due("follows(1, 1)", 0, x.follows(1, 1));
        x.restore();
        Edge.due("rules(2), no LAW 1", Edge.BEYOND, x.rules(2));
        Edge.law(x, 0, 1, "c");
        Edge.due("rules(2)", 531441, x.rules(2));
        Edge.due("rules(3)", 4096, x.rules(3));
        Edge.due("follows(1, 1)", 1, x.follows(1, 1));
        x.restore();
        Edge.law(x, 0, 1, "c=3");
        Edge.due("rules(3)", 0, x.rules(3));
        Edge.due("find(3, 0)", Edge.NONE, x.find(3, 0));
        Edge.due("small(3)", 3, x.small(3));
        x.restore();
        x.law(2, 1);
        Edge.due("rules(3)", 128, x.rules(3));
        Edge.due("small(3)", Edge.STATE, x.small(3));
        Edge.due("near(3)", 12, x.near(3));
    }

    @Says(in = "Promise 36", words = "NONE: there is none")
    static void p36None() {
        NineDemands x = Edge.five();
        x.form(0);
        Edge.due("restore()", Edge.NONE, x.restore());
        Edge.due("restore()", Edge.NONE, x.restore());
        Edge.due("LAWS", 5, x.count(0));
        Edge.dueRule("behind NONE", "111111111111", x);
        x.image();
        Edge.due("restore() behind image()", 5, x.restore());
    }

    // ---- 37 and 38: tell, learn

    @Says(in = "Promise 37", words = "One more number waits: how many")
    static void p37Any() {
        NineDemands x = new NineDemands();
        int n = 0;
        for (int v : new int[] {Edge.LEAST, -1, 0, 1, 3, 4, Edge.GREATEST}) {
            n++;
            Edge.due("tell(" + v + ")", n, x.tell(v));
            Edge.due("count(4)", n, x.count(4));
        }
    }

    @Says(in = "Promise 37", words = "FULL: 20 wait")
    static void p37Full() {
        NineDemands x = new NineDemands();
        for (int n = 1; n <= 20; n++) {
            Edge.due("tell(1)", n, x.tell(1));
        }
        Edge.due("the 21st", Edge.FULL, x.tell(1));
        Edge.due("count(4)", 20, x.count(4));
        x.learn(0);
        Edge.due("behind learn()", 1, x.tell(1));
    }

    private static void dueLearn(NineDemands x, int set, int want, int... numbers) {
        for (int v : numbers) {
            x.tell(v);
        }
        Edge.due("learn(" + set + ") of " + numbers.length, want, x.learn(set));
        Edge.due("numbers that wait then", 0, x.count(4));
    }

    @Says(in = "Promise 38", words = "The numbers that wait (none do then) are CHOICES of THE FIRST RULE by a SET in HALLS 0, 1, ..: 0")
    static void p38AllAreSo() {
        NineDemands x = Edge.five();
        dueLearn(x, 15, 0);
        dueLearn(x, 15, 0, 1);
        dueLearn(x, 15, 0, 1, 3, 3, 2, 1, 1, 1, 2, 1, 2, 2, 2);
        Edge.dueRule("behind learn()", "333333333333", x);
    }

    @Says(in = "Promise 38", words = "1 and the place of the first that isn't so")
    static void p38FirstThatIsNot() {
        NineDemands x = Edge.five();
        dueLearn(x, 15, 1, 2, 2);
        dueLearn(x, 15, 2, 1, 1, 9);
        dueLearn(x, 15, 12, 1, 3, 3, 2, 1, 1, 1, 2, 1, 2, 2, 3);
        dueLearn(x, 0, 1, 0);
        dueLearn(x, 0, 1, Edge.LEAST);
        dueLearn(x, 0, 1, Edge.BEYOND);
        dueLearn(x, 0, 1, 257);
    }

    @Says(in = "Promise 38", words = "or stands for no HALL")
    static void p38NoHall() {
        NineDemands x = Edge.five();
        dueLearn(x, 0, 0, 1, 1, 1, 1, 1, 1, 1, 1, 1, 1, 1, 1);
        dueLearn(x, 0, 13, 1, 1, 1, 1, 1, 1, 1, 1, 1, 1, 1, 1, 1);
        dueLearn(x, 0, 13, 1, 1, 1, 1, 1, 1, 1, 1, 1, 1, 1, 1, 1, 1, 1, 1, 1, 1, 1, 1);
        dueLearn(x, 0, 12, 1, 1, 1, 1, 1, 1, 1, 1, 1, 1, 1, 2, 1);
    }

    @Says(in = "Promise 38", words = "BEYOND")
    static void p38NoSuchSet() {
        NineDemands x = Edge.five();
        for (int set : NO_SETS) {
            Edge.due("learn(" + set + ")", Edge.BEYOND, x.learn(set));
        }
    }

    @Says(in = "Promise 38", words = "BEYOND, NONE (none wait then, too)")
    static void p38NoneWaitBehindBeyond() {
        NineDemands x = Edge.five();
        dueLearn(x, 32, Edge.BEYOND, 1, 1);
        dueLearn(x, -1, Edge.BEYOND, 1);
        Edge.due("told(1)", 2, x.told(1));
    }

    @Says(in = "Promise 38", words = "NONE (none wait then, too)")
    static void p38NoneWaitBehindNone() {
        NineDemands x = Edge.five();
        dueLearn(x, 28, Edge.NONE, 1, 1);
        dueLearn(x, 31, Edge.NONE);
        Edge.due("told(2)", 2, x.told(2));
    }

    // ---- 39: count

    @Says(in = "Promise 39", words = "0 LAWS, 1 all PRICES together")
    static void p39Laws() {
        NineDemands x = new NineDemands();
        Edge.due("count(1)", 0, x.count(1));
        for (int n = 1; n <= 8; n++) {
            x.law(5, 99);
            Edge.due("count(0)", n, x.count(0));
            Edge.due("count(1)", 99 * n, x.count(1));
        }
        x.price(7, 0);
        Edge.due("count(1)", 693, x.count(1));
    }

    @Says(in = "Promise 39", words = "2 HALLS in which THE TOLD RULE chooses both")
    static void p39Both() {
        NineDemands x = new NineDemands();
        Edge.due("count(2)", 12, x.count(2));
        for (int h = 0; h < 12; h++) {
            x.choose(h, 1 + h % 2);
            Edge.due("count(2)", 11 - h, x.count(2));
        }
    }

    @Says(in = "Promise 39", words = "3 bytes of THE TAPE, 4 numbers that wait, 5 BODIES in THE TRACE")
    static void p39Others() {
        NineDemands x = Edge.five();
        for (int what = 3; what <= 5; what++) {
            Edge.due("count(" + what + ")", 0, x.count(what));
        }
        x.feed(0, 5);
        x.tell(1);
        x.tell(1);
        x.voice(2, STANDS, 0);
        Edge.due("count(3)", 5, x.count(3));
        Edge.due("count(4)", 2, x.count(4));
        Edge.due("count(5)", 8, x.count(5));
    }

    @Says(in = "Promise 39", words = "BEYOND")
    static void p39NoSuchQuestion() {
        NineDemands x = Edge.five();
        for (int what : new int[] {Edge.LEAST, -1, 6, 7, Edge.GREATEST}) {
            Edge.due("count(" + what + ")", Edge.BEYOND, x.count(what));
        }
    }

    // ---- 40: told

    @Says(in = "Promise 40", words = "How many acts have answered an ERROR LOW - k (k 1 .. 5)")
    static void p40EachByItself() {
        Map<Integer, Runnable> acts = new HashMap<>();
        NineDemands x = new NineDemands();
        x.sheet(0, 8, 1);
        for (int n = 0; n < 20; n++) {
            x.tell(1);
        }
        acts.put(1, () -> x.chosen(12));
        acts.put(2, () -> x.trace(0));
        acts.put(3, () -> x.few(0));
        acts.put(4, () -> x.tell(1));
        acts.put(5, () -> x.block(0));
        int[] want = new int[5];
        for (int k = 1; k <= 5; k++) {
            for (int n = 0; n < k; n++) {
                acts.get(k).run();
                want[k - 1]++;
                Edge.dueTold(x, want);
            }
        }
    }

    @Says(in = "Promise 40", words = "How many acts have answered an ERROR LOW - k")
    static void p40NothingElseCounts() {
        NineDemands x = Edge.five();
        x.told(1);
        x.law(0, 0);
        x.may(31, 0);
        x.rules(31);
        x.small(31);
        x.give(15, 0);
        x.sheet(0, 0, -1);
        x.learn(0);
        Edge.dueTold(x, 0, 0, 0, 0, 0);
    }

    @Says(in = "Promise 40", words = "BEYOND: another k (counted, too)")
    static void p40AnotherK() {
        NineDemands x = new NineDemands();
        int n = 0;
        for (int k : new int[] {Edge.LEAST, -1, 0, 6, 7, Edge.GREATEST}) {
            n++;
            Edge.due("told(" + k + ")", Edge.BEYOND, x.told(k));
            Edge.due("told(1)", n, x.told(1));
        }
        Edge.dueTold(x, n, 0, 0, 0, 0);
    }

    public static void main(String[] args) {
        Edge.run(EdgeVoicesTests.class);
    }
}
