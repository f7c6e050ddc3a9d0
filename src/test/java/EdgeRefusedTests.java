import java.util.ArrayList;
import java.util.List;
import java.util.function.Supplier;
import java.util.function.ToLongFunction;

/** In which order ERRORS are asked, and that a call that answers one changes nothing but what told() tells. */
public final class EdgeRefusedTests {
    private static final String ORDER = "Each act tells its ERRORS in the order in which they are asked";
    private static final String NOTHING = "one that answers an ERROR changes nothing but what told() tells";

    // ---- villages in which all that can change is something that can be seen to change

    /** Five LAWS, THE TOLD RULE, THE TAPE, numbers that wait, SHEETS, THE TRACE, and another IMAGE. */
    private static NineDemands lived() {
        NineDemands x = new NineDemands();
        Edge.law(x, 0, 4, "c=3");
        x.law(3, 6);
        x.form(4);
        x.tell(2);
        Edge.feed(x, "c>");
        x.image();
        x.sheet(0, 0, 0);
        x.law(2, 1);
        x.image();
        x.restore();
        x.law(5, 9);
        x.law(2, 3);
        x.form(8);
        x.choose(9, 3);
        x.tell(3);
        Edge.sheet(x, 0, 8, 1, 2, 3, 3, 2, 1, 1, 2, 3, 3, 2, 1);
        Edge.sheet(x, 1, 16, 2, 1, 4);
        Edge.sheet(x, 2, 32, 1, 5, 9);
        x.voice(1, 3, 5);
        x.trace(99);
        return x;
    }

    private static NineDemands withEightLaws() {
        NineDemands x = lived();
        for (int n = 0; n < 3; n++) {
            x.law(5, 20 + n);
        }
        return x;
    }

    private static NineDemands withTurnedKept() {
        NineDemands x = lived();
        x.choose(9, 2);
        return x;
    }

    private static NineDemands withFullTape() {
        NineDemands x = lived();
        Edge.feed(x, "1" + "+1".repeat(22) + "+11");
        return x;
    }

    private static NineDemands withAlmostFullTape() {
        NineDemands x = lived();
        Edge.feed(x, "1" + "+1".repeat(23));
        return x;
    }

    private static NineDemands withTwentyThatWait() {
        NineDemands x = lived();
        for (int n = x.count(4); n < 20; n++) {
            x.tell(1 + n % 3);
        }
        return x;
    }

    private static NineDemands withoutImage() {
        NineDemands x = new NineDemands();
        Edge.law(x, 0, 4, "c=3");
        x.form(4);
        x.tell(2);
        Edge.feed(x, "c>");
        return x;
    }

    /** All that can be seen of a village but told(), which it changes; some 200 calls. */
    private static List<Long> seen(NineDemands x) {
        List<Long> seen = new ArrayList<>();
        for (int i = 0; i < 12; i++) {
            seen.add((long) x.trace(i));
        }
        seeLaws(x, seen);
        seeSheets(x, seen);
        seeTape(x, seen);
        seen.add((long) x.restore());
        seeLaws(x, seen);
        seeTape(x, seen);
        seen.add((long) x.image());
        return seen;
    }

    private static void seeLaws(NineDemands x, List<Long> seen) {
        for (int what = 0; what <= 5; what++) {
            seen.add((long) x.count(what));
        }
        for (int h = 0; h < 12; h++) {
            seen.add((long) x.chosen(h));
        }
        int laws = x.count(0);
        for (int n = 0; n < laws; n++) {
            int price = x.price(n, 0);
            seen.add((long) price);
            x.price(n, price);
            seen.add((long) x.as(n, 0));
            seen.add((long) x.breach(n));
            seen.add(x.rules(1 << n));
        }
        seen.add(x.rules((1 << laws) - 1));
        seen.add((long) x.show((1 << laws) - 1, -1));
    }

    private static void seeSheets(NineDemands x, List<Long> seen) {
        for (int sheet = 0; sheet < 4; sheet++) {
            for (int n = 2; n <= 4; n++) {
                seen.add((long) x.move(sheet, 0, sheet, 0, n));
            }
            seen.add((long) x.move(sheet, 0, (sheet + 1) % 4, 0, 0));
            seen.add((long) x.move(sheet, 0, sheet, 0, 12));
            seen.add((long) x.move(sheet, 0, sheet, 0, 13));
        }
        for (int sheet = 0; sheet < 4; sheet++) {
            x.form(2);
            seen.add((long) x.check(1, sheet));
            x.put(sheet, sheet == 1 ? 2 : 99, 3);
            seen.add((long) x.block(sheet));
            for (int h = 0; h < 12; h++) {
                seen.add((long) x.chosen(h));
            }
        }
    }

    /** THE TAPE as a TEXT, the numbers that wait as CHOICES. */
    private static void seeTape(NineDemands x, List<Long> seen) {
        x.feed('2', 1);
        int law = x.law(0, 0);
        seen.add((long) law);
        for (int c = 1; c <= 3; c++) {
            seen.add((long) x.so(law, 0, c, 0));
        }
        seen.add((long) x.tell(7));
        seen.add((long) x.learn(1));
    }

    private static void refused(String call, int error, ToLongFunction<NineDemands> act) {
        refusedIn(EdgeRefusedTests::lived, call, error, act);
    }

    private static void refusedIn(Supplier<NineDemands> made, String call, int error, ToLongFunction<NineDemands> act) {
        NineDemands with = made.get();
        NineDemands without = made.get();
        Edge.due(call, error, act.applyAsLong(with));
        for (int k = 1; k <= 5; k++) {
            int more = Edge.LOW - k == error ? 1 : 0;
            Edge.due("told(" + k + ") behind " + call, without.told(k) + more, with.told(k));
        }
        List<Long> want = seen(without);
        List<Long> got = seen(with);
        Edge.due("how much can be seen behind " + call, want.size(), got.size());
        for (int i = 0; i < want.size() && i < got.size(); i++) {
            Edge.due("what is seen (" + i + ") behind " + call, want.get(i), got.get(i));
        }
    }

    // ---- a refused call changes nothing

    @Says(in = "Terms ERRORS", words = NOTHING)
    static void refusedHalls() {
        refused("2: hall(12, 0)", Edge.BEYOND, x -> x.hall(12, 0));
        refused("2: hall(0, 3)", Edge.BEYOND, x -> x.hall(0, 3));
        refused("3: moved(12, 0)", Edge.BEYOND, x -> x.moved(12, 0));
        refused("3: moved(0, 3)", Edge.BEYOND, x -> x.moved(0, 3));
        refused("3: moved(0, 2)", Edge.NONE, x -> x.moved(0, 2));
        refused("4: choose(12, 1)", Edge.BEYOND, x -> x.choose(12, 1));
        refused("4: choose(0, 4)", Edge.BEYOND, x -> x.choose(0, 4));
        refused("5: chosen(12)", Edge.BEYOND, x -> x.chosen(12));
        refused("6: block(4)", Edge.BEYOND, x -> x.block(4));
        refused("6: block(3)", Edge.NONE, x -> x.block(3));
        refused("6: block(1)", Edge.KIND, x -> x.block(1));
        refused("7: form(12)", Edge.BEYOND, x -> x.form(12));
    }

    @Says(in = "Terms ERRORS", words = NOTHING)
    static void refusedLaws() {
        refused("8: feed(.., 0)", Edge.BEYOND, x -> x.feed(Edge.word("1"), 0));
        refused("8: feed(.., 9)", Edge.BEYOND, x -> x.feed(Edge.word("1+1+1+1+"), 9));
        refusedIn(EdgeRefusedTests::withFullTape, "8: feed(.., 8)", Edge.FULL, x -> x.feed(Edge.word("+1+1+1+1"), 8));
        refusedIn(EdgeRefusedTests::withAlmostFullTape, "8: feed(.., 2)", Edge.FULL, x -> x.feed(Edge.word("00"), 2));
        refused("9: law(6, 0)", Edge.BEYOND, x -> x.law(6, 0));
        refused("9: law(0, 100)", Edge.BEYOND, x -> x.law(0, 100));
        refused("9: law(5, -1)", Edge.BEYOND, x -> x.law(5, -1));
        refusedIn(EdgeRefusedTests::withEightLaws, "9: law(0, 1)", Edge.FULL, x -> x.law(0, 1));
        refusedIn(EdgeRefusedTests::withEightLaws, "9: law(5, 1)", Edge.FULL, x -> x.law(5, 1));
        refused("10: price(5, 1)", Edge.BEYOND, x -> x.price(5, 1));
        refused("10: price(0, 100)", Edge.BEYOND, x -> x.price(0, 100));
        refused("11: as(5, 0)", Edge.BEYOND, x -> x.as(5, 0));
        refused("11: as(0, 6)", Edge.BEYOND, x -> x.as(0, 6));
        refused("11: as(0, 1)", Edge.KIND, x -> x.as(0, 1));
        refused("12: part(5, 0, 0)", Edge.BEYOND, x -> x.part(5, 0, 0));
        refused("12: part(0, 12, 0)", Edge.BEYOND, x -> x.part(0, 12, 0));
        refused("12: part(0, 0, 2)", Edge.BEYOND, x -> x.part(0, 0, 2));
        refused("12: part(0, 0, 1)", Edge.NONE, x -> x.part(0, 0, 1));
        refused("13: so(5, 0, 1, 1)", Edge.BEYOND, x -> x.so(5, 0, 1, 1));
        refused("13: so(0, 12, 1, 1)", Edge.BEYOND, x -> x.so(0, 12, 1, 1));
        refused("13: so(0, 0, 4, 1)", Edge.BEYOND, x -> x.so(0, 0, 4, 1));
        refused("13: so(1, 0, 1, 4)", Edge.BEYOND, x -> x.so(1, 0, 1, 4));
        refused("14: breach(5)", Edge.BEYOND, x -> x.breach(5));
        refusedIn(EdgeRefusedTests::withTurnedKept, "14: breach(1)", Edge.NONE, x -> x.breach(1));
    }

    @Says(in = "Terms ERRORS", words = NOTHING)
    static void refusedRules() {
        refused("16: find(32, 0)", Edge.BEYOND, x -> x.find(32, 0));
        refused("16: find(0, 12)", Edge.BEYOND, x -> x.find(0, 12));
        refused("16: find(31, 0)", Edge.NONE, x -> x.find(31, 0));
        refused("17: write(32)", Edge.BEYOND, x -> x.write(32));
        refused("17: write(31)", Edge.NONE, x -> x.write(31));
        refused("18: rules(32)", Edge.BEYOND, x -> x.rules(32));
        refused("19: may(32, 0)", Edge.BEYOND, x -> x.may(32, 0));
        refused("19: may(0, 12)", Edge.BEYOND, x -> x.may(0, 12));
        refused("20: near(32)", Edge.BEYOND, x -> x.near(32));
        refused("20: near(31)", Edge.NONE, x -> x.near(31));
        refused("21: word(32)", Edge.BEYOND, x -> x.word(32));
        refused("21: word(31)", Edge.NONE, x -> x.word(31));
    }

    @Says(in = "Terms ERRORS", words = NOTHING)
    static void refusedShowings() {
        refused("22: show(32, 0)", Edge.BEYOND, x -> x.show(32, 0));
        refused("22: show(0, -3)", Edge.BEYOND, x -> x.show(0, -3));
        refused("22: show(0, 0)", Edge.NONE, x -> x.show(0, 0));
        refused("23: check(32, 0)", Edge.BEYOND, x -> x.check(32, 0));
        refused("23: check(0, 4)", Edge.BEYOND, x -> x.check(0, 4));
        refused("23: check(0, 3)", Edge.NONE, x -> x.check(0, 3));
        refused("24: small(32)", Edge.BEYOND, x -> x.small(32));
        refused("24: small(0)", Edge.STATE, x -> x.small(0));
        refused("25: few(32)", Edge.BEYOND, x -> x.few(32));
        refused("25: few(0)", Edge.STATE, x -> x.few(0));
        refused("26: give(32, 0)", Edge.BEYOND, x -> x.give(32, 0));
        refused("26: give(0, 2)", Edge.BEYOND, x -> x.give(0, 2));
        refused("27: follows(32, 0)", Edge.BEYOND, x -> x.follows(32, 0));
        refused("27: follows(0, 5)", Edge.BEYOND, x -> x.follows(0, 5));
        refused("28: spare(32)", Edge.BEYOND, x -> x.spare(32));
        refused("29: same(32, 0)", Edge.BEYOND, x -> x.same(32, 0));
        refused("29: same(0, 32)", Edge.BEYOND, x -> x.same(0, 32));
    }

    @Says(in = "Terms ERRORS", words = NOTHING)
    static void refusedVoicesAndSheets() {
        refused("30: voice(5, 0, 1)", Edge.BEYOND, x -> x.voice(5, 0, 1));
        refused("30: voice(0, 4, 1)", Edge.BEYOND, x -> x.voice(0, 4, 1));
        refused("31: trace(40)", Edge.NONE, x -> x.trace(40));
        refused("32: sheet(4, 8, 1)", Edge.BEYOND, x -> x.sheet(4, 8, 1));
        refused("32: sheet(0, 9, 1)", Edge.BEYOND, x -> x.sheet(0, 9, 1));
        refused("32: sheet(0, 8, -1)", Edge.STATE, x -> x.sheet(0, 8, -1));
        refused("32: sheet(0, 8, 41)", Edge.BEYOND, x -> x.sheet(0, 8, 41));
        refused("33: put(4, 0, 1)", Edge.BEYOND, x -> x.put(4, 0, 1));
        refused("33: put(3, 0, 1)", Edge.NONE, x -> x.put(3, 0, 1));
        refused("33: put(1, 3, 1)", Edge.BEYOND, x -> x.put(1, 3, 1));
        refused("34: move(0, 0, 4, 0, 1)", Edge.BEYOND, x -> x.move(0, 0, 4, 0, 1));
        refused("34: move(0, 0, 3, 0, 1)", Edge.NONE, x -> x.move(0, 0, 3, 0, 1));
        refused("34: move(0, 0, 1, 0, 1)", Edge.KIND, x -> x.move(0, 0, 1, 0, 1));
        refused("34: move(0, 0, 0, 1, 12)", Edge.BEYOND, x -> x.move(0, 0, 0, 1, 12));
    }

    @Says(in = "Terms ERRORS", words = NOTHING)
    static void refusedImagesAndTold() {
        refusedIn(EdgeRefusedTests::withoutImage, "36: restore()", Edge.NONE, x -> x.restore());
        refusedIn(EdgeRefusedTests::withTwentyThatWait, "37: tell(1)", Edge.FULL, x -> x.tell(1));
        refused("39: count(6)", Edge.BEYOND, x -> x.count(6));
        refused("40: told(6)", Edge.BEYOND, x -> x.told(6));
        refused("40: told(0)", Edge.BEYOND, x -> x.told(0));
    }

    /** learn() is the one that says otherwise: then none wait; all else stays. */
    @Says(in = "Terms ERRORS", words = NOTHING)
    static void refusedLearn() {
        Supplier<NineDemands> made = () -> {
            NineDemands x = lived();
            x.learn(0);
            return x;
        };
        refusedIn(made, "38: learn(32)", Edge.BEYOND, x -> x.learn(32));
        refusedIn(made, "38: learn(31)", Edge.NONE, x -> x.learn(31));
    }

    // ---- which ERROR is asked first, where a call could answer two

    @Says(in = "Terms ERRORS", words = ORDER)
    static void orderMoved() {
        NineDemands x = new NineDemands();
        Edge.due("3: HALL 12 has no PERSON 2", Edge.BEYOND, x.moved(12, 2));
        Edge.due("3: PERSON 3 isn't in HALL 0", Edge.BEYOND, x.moved(0, 3));
    }

    @Says(in = "Terms ERRORS", words = ORDER)
    static void orderFeed() {
        NineDemands x = withFullTape();
        Edge.due("8: bytes", 50, x.count(3));
        Edge.due("8: none to a full TAPE", Edge.BEYOND, x.feed(0, 0));
        Edge.due("8: 9 to a full TAPE", Edge.BEYOND, x.feed(0, 9));
        Edge.due("8: 1 to a full TAPE", Edge.FULL, x.feed(0, 1));
    }

    @Says(in = "Terms ERRORS", words = ORDER)
    static void orderLaw() {
        NineDemands x = withEightLaws();
        Edge.due("9: KIND 6 where there are 8", Edge.BEYOND, x.law(6, 0));
        Edge.due("9: PRICE 100 where there are 8", Edge.BEYOND, x.law(0, 100));
        Edge.due("9: a FAULT where there are 8", Edge.FULL, x.law(0, 0));
        NineDemands y = new NineDemands();
        Edge.feed(y, "x");
        Edge.due("9: a FAULT and PRICE 100", Edge.BEYOND, y.law(0, 100));
        Edge.due("9: THE TAPE stays", 1, y.count(3));
    }

    @Says(in = "Terms ERRORS", words = ORDER)
    static void orderAsPartAndSo() {
        NineDemands x = Edge.ofAllKinds();
        Edge.due("11: LAW 6 as KIND 5", Edge.BEYOND, x.as(6, 5));
        Edge.due("11: LAW 0 as KIND 6", Edge.BEYOND, x.as(0, 6));
        Edge.due("12: k of no such CASE", Edge.BEYOND, x.part(0, 12, 1));
        Edge.due("12: k of no such LAW", Edge.BEYOND, x.part(6, 0, 1));
        Edge.due("12: what 2 where there is no k", Edge.BEYOND, x.part(5, 0, 2));
        Edge.due("13: no such c where there is no k", Edge.BEYOND, x.so(5, 0, 0, 0));
    }

    @Says(in = "Terms ERRORS", words = ORDER)
    static void orderRulesOfASetThatIsOut() {
        NineDemands x = Edge.withTexts("0");
        Edge.due("16: HALL 12 by an OUT SET", Edge.BEYOND, x.find(1, 12));
        Edge.due("16: HALL -1 by an OUT SET", Edge.BEYOND, x.find(1, -1));
        Edge.due("16: HALL 11 by an OUT SET", Edge.NONE, x.find(1, 11));
        Edge.due("19: HALL 12 by an OUT SET", Edge.BEYOND, x.may(1, 12));
    }

    @Says(in = "Terms ERRORS", words = ORDER)
    static void orderShowAndCheck() {
        NineDemands x = new NineDemands();
        Edge.due("22: no such SET, no such STEP", Edge.BEYOND, x.show(1, 0));
        Edge.due("22: what -3 where there is no STEP", Edge.BEYOND, x.show(0, -3));
        Edge.due("23: no such SET, a SHEET that is missing", Edge.BEYOND, x.check(1, 0));
        Edge.due("24: no such SET that isn't OUT", Edge.BEYOND, x.small(1));
        Edge.due("25: no such SET that isn't OUT", Edge.BEYOND, x.few(1));
    }

    @Says(in = "Terms ERRORS", words = ORDER)
    static void orderSheetPutMove() {
        NineDemands x = new NineDemands();
        x.sheet(0, 8, 1);
        x.sheet(1, 16, 1);
        Edge.due("32: SHEET 4, n -1", Edge.BEYOND, x.sheet(4, 8, -1));
        Edge.due("32: bits 9, n -1", Edge.BEYOND, x.sheet(0, 9, -1));
        Edge.due("32: n -1", Edge.STATE, x.sheet(0, 8, -1));
        Edge.due("33: SHEET 4, number -1", Edge.BEYOND, x.put(4, -1, 0));
        Edge.due("33: a SHEET that is missing, number -1", Edge.NONE, x.put(2, -1, 0));
        Edge.due("34: no such SHEET ahead of NONE", Edge.BEYOND, x.move(2, 0, 4, 0, 0));
        Edge.due("34: NONE ahead of KIND and n", Edge.NONE, x.move(0, -1, 2, -1, -1));
        Edge.due("34: KIND ahead of n", Edge.KIND, x.move(0, -1, 1, -1, -1));
    }

    @Says(in = "Terms ERRORS", words = ORDER)
    static void orderLearnAndVoice() {
        NineDemands x = Edge.withTexts("0");
        Edge.due("38: no such SET", Edge.BEYOND, x.learn(2));
        Edge.due("38: a SET that is OUT", Edge.NONE, x.learn(1));
        Edge.due("30: no such LAW, no such act", Edge.BEYOND, x.voice(9, 9, 9));
    }

    public static void main(String[] args) {
        Edge.run(EdgeRefusedTests.class);
    }
}
