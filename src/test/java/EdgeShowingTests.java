import java.util.List;

/** Terms 4 (THE SHOWING to GIVEN UP) and promises 22 to 29, sentence by sentence: that there is none. */
public final class EdgeShowingTests {
    /** None of these is a SET where there are five LAWS. */
    private static final int[] NO_SETS = {Edge.LEAST, -1, 32, 33, 64, 255, 256, Edge.GREATEST};

    private static int step(int law, int hall, int choice) {
        return 48 * law + 4 * hall + choice;
    }

    private static void dueSteps(NineDemands x, int set, int... steps) {
        Edge.due("show(" + set + ", -1)", steps.length, x.show(set, -1));
        for (int i = 0; i < steps.length; i++) {
            Edge.due("show(" + set + ", " + i + ")", steps[i], x.show(set, i));
        }
        Edge.due("show(" + set + ", " + steps.length + ")", Edge.NONE, x.show(set, steps.length));
    }

    /** LAW 0: in HALLS of two what PERSON 0 wants; LAW 1: ALIKE. OUT, by HALLS 1 and 2. */
    private static NineDemands ruledByOne() {
        NineDemands x = Edge.withTexts("s=3|c=1+p");
        x.law(2, 1);
        return x;
    }

    // ---- Terms 4: THE SHOWING

    @Says(in = "Terms 4", words = "THE SHOWING of a SET: a row of STEPS")
    static void t4ARow() {
        dueSteps(ruledByOne(), 3, 2, 3, 5, 7, 10, 11, 13, 15, step(1, 1, 2));
    }

    @Says(in = "Terms 4", words = "All CHOICES of all HALLS are left at first")
    static void t4AllAreLeft() {
        NineDemands x = Edge.ofAllKinds();
        dueSteps(x, 0);
        dueSteps(x, 31);
        Edge.due("whatever was shown before", 12, x.show(32, -1));
        dueSteps(x, 31);
        Edge.due("and shown again", 12, x.show(32, -1));
    }

    @Says(in = "Terms 4", words = "for LAWS of the SET by numbers, for their CASES in order")
    static void t4LawsByNumbers() {
        NineDemands x = Edge.withTexts("a|s=3|c<3", "1", "b|s=3|c>1", "a|s=3|c<2");
        dueSteps(x, 15, step(0, 3, 3), step(2, 0, 1), step(3, 3, 2));
        dueSteps(x, 13, step(0, 3, 3), step(2, 0, 1), step(3, 3, 2));
        dueSteps(x, 12, step(2, 0, 1), step(3, 3, 2), step(3, 3, 3));
        dueSteps(x, 8, step(3, 3, 2), step(3, 3, 3));
    }

    @Says(in = "Terms 4", words = "then, again and again")
    static void t4AgainAndAgain() {
        NineDemands x = new NineDemands();
        x.law(2, 0);
        Edge.law(x, 0, 0, "!(p=1&q=0&r=0)|c=1");
        dueSteps(x, 3, step(1, 5, 2), step(1, 5, 3), step(0, 6, 2), step(0, 6, 3), step(0, 8, 2), step(0, 8, 3));
    }

    @Says(in = "Terms 4", words = "each CHOICE c that is left in h, the least first, for which it isn't so (LAW, SINGLE)")
    static void t4LeastFirst() {
        dueSteps(Edge.withTexts("!(p=0&q=1&r=0)|c=2"), 1, step(0, 6, 1), step(0, 6, 3));
        NineDemands x = new NineDemands();
        x.law(5, 0);
        dueSteps(x, 1, 3, 7, 11, 15, 19, 23, 27, 31, 35, 39, 43, 47);
    }

    @Says(in = "Terms 4", words = "or that goes with no d that is left in k (others), is struck; then (others) each d that is left in k that goes with no c that is left in h")
    static void t4FirstHThenK() {
        NineDemands x = new NineDemands();
        Edge.law(x, 1, 0, "c=1&d=2");
        dueSteps(x, 1, step(0, 0, 2), step(0, 0, 3), step(0, 1, 1), step(0, 1, 3), step(0, 2, 1), step(0, 2, 3),
            step(0, 1, 2));
        x = new NineDemands();
        Edge.law(x, 4, 0, "d>c|p|q|w");
        dueSteps(x, 1, step(0, 0, 3), step(0, 4, 1));
    }

    @Says(in = "Terms 4", words = "a STEP: 48 times the LAW, 4 times the HALL, and the CHOICE")
    static void t4NumbersOfSteps() {
        NineDemands x = new NineDemands();
        for (int n = 0; n < 7; n++) {
            x.law(2, 0);
        }
        Edge.law(x, 0, 0, "a|s=2|c<3");
        Edge.due("LAW 7, HALL 11, CHOICE 3", 383, x.show(128, 0));
        dueSteps(x, 255, 383);
        NineDemands y = Edge.withTexts("b|s=3|c>1");
        Edge.due("LAW 0, HALL 0, CHOICE 1", 1, y.show(1, 0));
    }

    @Says(in = "Terms 4", words = "It ends as soon as a HALL has no CHOICE left")
    static void t4EndsAtOnce() {
        dueSteps(Edge.withTexts("0"), 1, 1, 2, 3);
        dueSteps(Edge.withTexts("1", "a|s=2|c>3", "0"), 7, step(1, 11, 1), step(1, 11, 2), step(1, 11, 3));
        NineDemands x = new NineDemands();
        Edge.law(x, 1, 0, "0");
        dueSteps(x, 1, 1, 2, 3);
        x = new NineDemands();
        Edge.law(x, 0, 0, "b|s=3|c=1");
        Edge.law(x, 4, 0, "!(c=1)&d=1");
        dueSteps(x, 3, 2, 3, step(1, 0, 1));
    }

    @Says(in = "Terms 4", words = "or when nothing was struck in one round of all LAWS")
    static void t4EndsWithNothing() {
        NineDemands x = Edge.five();
        dueSteps(x, 12);
        Edge.due("steps of all five", 16, x.show(31, -1));
        Edge.due("though the SET is OUT", 0, x.rules(31));
        Edge.due("no PROOF", 0, x.show(31, -2));
    }

    @Says(in = "Terms 4", words = "when nothing was struck in one round of all LAWS")
    static void t4ALongWay() {
        NineDemands x = new NineDemands();
        Edge.law(x, 1, 0, "c=d");
        Edge.law(x, 4, 0, "c=d");
        Edge.law(x, 0, 0, "a|s=2|c=2");
        Edge.due("two struck in each HALL", 24, x.show(7, -1));
        Edge.due("first", step(2, 11, 1), x.show(7, 0));
        Edge.due("second", step(2, 11, 3), x.show(7, 1));
        Edge.due("then MOVED of 7 and 11", step(0, 7, 1), x.show(7, 2));
        Edge.due("no PROOF", 0, x.show(7, -2));
        Edge.law(x, 0, 0, "b|s=3|c=1");
        Edge.due("the last one empties HALL 0", 1, x.show(15, -2));
    }

    @Says(in = "Terms 4", words = "It is a PROOF, if a HALL has none left")
    static void t4Proof() {
        NineDemands x = Edge.withTexts("a|s=2|c<3", "a|s=2|c>2");
        Edge.due("one left", 0, x.show(2, -2));
        Edge.due("two left", 0, x.show(1, -2));
        Edge.due("none left", 1, x.show(3, -2));
        Edge.due("all left", 0, x.show(0, -2));
    }

    // ---- Terms 4: a STEP FOLLOWS

    private static void dueCheck(String what, NineDemands x, int set, int want, int... steps) {
        Edge.sheet(x, 0, 16, steps);
        Edge.due("check of " + what, want, x.check(set, 0));
    }

    @Says(in = "Terms 4", words = "A STEP FOLLOWS, if its LAW is of the SET")
    static void t4LawOfTheSet() {
        NineDemands x = Edge.withTexts("c<3", "c<3");
        dueCheck("LAW 0 by 1", x, 1, 2, 3);
        dueCheck("LAW 1 by 1", x, 1, 1, step(1, 0, 3));
        dueCheck("LAW 1 by 2", x, 2, 2, step(1, 0, 3));
        dueCheck("LAW 0 by 2", x, 2, 1, 3);
        dueCheck("LAW 2", x, 3, 1, step(2, 0, 3));
        dueCheck("LAW 8", x, 3, 1, step(8, 0, 3));
        dueCheck("LAW 0 by none", x, 0, 1, 3);
    }

    @Says(in = "Terms 4", words = "its CHOICE is left in its HALL")
    static void t4ChoiceIsLeft() {
        NineDemands x = Edge.withTexts("c<3", "c=1");
        dueCheck("it is struck twice", x, 3, 2, 3, 3);
        dueCheck("by another LAW", x, 3, 2, 3, step(1, 0, 3));
        dueCheck("another CHOICE", x, 3, 3, 3, step(1, 0, 2));
        dueCheck("another HALL", x, 3, 3, 3, step(1, 1, 3));
    }

    @Says(in = "Terms 4", words = "its CHOICE is left in its HALL")
    static void t4NoSuchChoice() {
        NineDemands x = Edge.withTexts("0");
        dueCheck("CHOICE 0 of HALL 0", x, 1, 1, 0);
        dueCheck("CHOICE 0 of HALL 1", x, 1, 1, 4);
        dueCheck("CHOICE 0 of HALL 11", x, 1, 1, 44);
        dueCheck("a number below 0", x, 1, 1, -1);
        dueCheck("-47", x, 1, 1, -47);
        dueCheck("-48 and 1", x, 1, 1, -47 - 48);
        dueCheck("the greatest STEP of LAW 0", x, 1, 2, 47);
        Edge.sheet(x, 0, 32, Edge.LEAST);
        Edge.due("the least number", 1, x.check(1, 0));
        Edge.sheet(x, 0, 32, Edge.GREATEST);
        Edge.due("the greatest number", 1, x.check(1, 0));
        Edge.sheet(x, 0, 32, 48 * 32 + 1);
        Edge.due("LAW 32", 1, x.check(1, 0));
    }

    @Says(in = "Terms 4", words = "there is a CASE of the LAW with this HALL (as h or as k) in which it isn't so")
    static void t4CaseOfTheHall() {
        NineDemands x = Edge.withTexts("a|s=2|c<3");
        dueCheck("HALL 11", x, 1, 2, 47);
        for (int h = 0; h < 11; h++) {
            dueCheck("HALL " + h, x, 1, 1, 4 * h + 3);
        }
        x = new NineDemands();
        Edge.law(x, 4, 0, "0");
        dueCheck("HALL 0 as h", x, 1, 2, 1);
        dueCheck("HALL 3 as h", x, 1, 2, 13);
        dueCheck("HALL 4 as k", x, 1, 2, 17);
        dueCheck("HALL 11 as k", x, 1, 2, 47);
        x = new NineDemands();
        x.law(2, 0);
        dueCheck("HALL 0 is in no CASE of ALIKE", x, 1, 1, 1);
    }

    @Says(in = "Terms 4", words = "or goes with nothing that is left in the other one")
    static void t4NothingLeftInTheOther() {
        NineDemands x = new NineDemands();
        Edge.law(x, 4, 0, "c=d|w|p|q");
        Edge.law(x, 0, 0, "c<3");
        Edge.law(x, 0, 0, "c>1");
        dueCheck("all is left", x, 7, 1, step(0, 0, 3));
        dueCheck("k has no 3", x, 7, 3, step(1, 4, 3), step(0, 0, 3));
        dueCheck("k has no 1, which isn't 3", x, 7, 2, step(2, 4, 1), step(0, 0, 3));
        dueCheck("k has no 1", x, 7, 3, step(2, 4, 1), step(0, 0, 1));
        dueCheck("h has no 3", x, 7, 3, step(1, 0, 3), step(0, 4, 3));
        dueCheck("h has no 1", x, 7, 3, step(2, 0, 1), step(0, 4, 1));
        dueCheck("h has no 1, which isn't 3", x, 7, 2, step(2, 0, 1), step(0, 4, 3));
    }

    @Says(in = "Terms 4", words = "or goes with nothing that is left in the other one")
    static void t4AnyCaseWillDo() {
        NineDemands x = new NineDemands();
        Edge.law(x, 1, 0, "c=1|!(i=2)|a");
        dueCheck("the last CASE alone", x, 1, 2, step(0, 11, 2));
        dueCheck("no CASE", x, 1, 1, step(0, 11, 1));
        dueCheck("no CASE of k", x, 1, 1, step(0, 7, 2));
    }

    // ---- Terms 4: SMALL, FEW, GIVEN UP, FOLLOWS

    @Says(in = "Terms 4", words = "SMALL: of a SET that is OUT the subset of the fewest LAWS that is OUT")
    static void t4SmallFewest() {
        NineDemands x = Edge.withTexts("s=3|c<3", "s=3|c>1", "s=3|!(c=2)", "s=2|c=1", "s=2|c=2", "0");
        Edge.due("all three", 7, x.small(7));
        Edge.due("not one that isn't needed", 7, x.small(15));
        Edge.due("two, though greater as bits", 24, x.small(31));
        Edge.due("one", 32, x.small(63));
        Edge.due("only what is of the SET", 7, x.small(23));
    }

    @Says(in = "Terms 4", words = "then the least as bits")
    static void t4SmallLeast() {
        NineDemands x = Edge.withTexts("1", "c=1", "c=2", "c=3", "c=1");
        Edge.due("1 and 2", 6, x.small(31));
        Edge.due("1 and 3", 10, x.small(26));
        Edge.due("2 and 3", 12, x.small(29));
        Edge.due("2 and 4", 20, x.small(21));
    }

    @Says(in = "Terms 4", words = "FEW: the fewest HALLS such that nothing FITS already")
    static void t4FewFewest() {
        NineDemands x = ruledByOne();
        Edge.law(x, 0, 1, "a|s=2");
        Edge.due("HALLS 1 and 2", 6, x.few(3));
        Edge.due("HALL 11 alone, though greater as bits", 2048, x.few(7));
        Edge.due("HALL 11 alone", 2048, x.few(4));
    }

    @Says(in = "Terms 4", words = "if just those CASES count of which the HALLS are of them")
    static void t4FewBothHallsOfACase() {
        NineDemands x = new NineDemands();
        Edge.law(x, 4, 0, "0");
        Edge.due("HALLS 0 and 4", 17, x.few(1));
        x = new NineDemands();
        Edge.law(x, 4, 0, "c=d&(s=2)");
        Edge.law(x, 0, 0, "s=3|c=1");
        Edge.law(x, 0, 0, "s=2|r=0|c=2");
        Edge.due("HALLS 0 and 8", 257, x.few(7));
        x = new NineDemands();
        Edge.law(x, 1, 0, "s=2|c=d");
        Edge.law(x, 0, 0, "s=2|a<3|c=1");
        Edge.law(x, 0, 0, "s=2|b<3|c=2");
        Edge.due("a way from 4 to 11: 5, 7", 1 << 4 | 1 << 5 | 1 << 7 | 1 << 11, x.few(7));
    }

    @Says(in = "Terms 4", words = "such that nothing FITS already if just those CASES count of which the HALLS are of them, then the least as bits")
    static void t4FewLeast() {
        Edge.due("any HALL", 1, Edge.withTexts("0").few(1));
        Edge.due("HALL 3, 7, 9, 10, 11", 8, Edge.withTexts("b<2").few(1));
        Edge.due("HALL 7, 9, 10, 11", 128, Edge.withTexts("b<2|s=2").few(1));
        Edge.due("HALL 9, 10", 512, Edge.withTexts("b<2|s=2|r=0|b=3").few(1));
        NineDemands x = Edge.withTexts("c<3");
        x.law(2, 0);
        x.law(3, 0);
        Edge.due("HALLS 1 and 2", 6, x.few(7));
    }

    @Says(in = "Terms 4", words = "FEW: the fewest HALLS")
    static void t4FewMany() {
        NineDemands x = new NineDemands();
        x.law(5, 0);
        Edge.law(x, 1, 0, "s=2|!(c=d)");
        Edge.law(x, 4, 0, "c=d|!(p+q+w=1&p)|p=0");
        Edge.due("two colours of a cube are no hindrance", Edge.STATE, x.few(3));
        Edge.law(x, 0, 0, "s=2|a<3|c=1");
        Edge.law(x, 0, 0, "s=2|b<3|c=1");
        Edge.due("4 and 11 can't be alike: a way of three", 1 << 4 | 1 << 5 | 1 << 7 | 1 << 11, x.few(27));
    }

    @Says(in = "Terms 4", words = "GIVEN UP: the LAWS of a SET without which it isn't OUT: the least PRICE together")
    static void t4GivenCheapest() {
        NineDemands x = Edge.five();
        Edge.due("TURNED", 8, x.give(31, 0));
        x.price(3, 99);
        Edge.due("ALIKE", 4, x.give(31, 0));
        x.price(2, 99);
        Edge.due("SINGLE", 16, x.give(31, 0));
        Edge.due("not OUT: none", 0, x.give(15, 0));
        x = Edge.withTexts("c=1", "c=2", "c=2");
        x.price(0, 3);
        Edge.due("two for 2 rather than one for 3", 6, x.give(7, 0));
    }

    @Says(in = "Terms 4", words = "then the fewest, then the least as bits")
    static void t4GivenFewestThenLeast() {
        NineDemands x = Edge.withTexts("c=2", "c=2", "c=1", "1");
        x.price(2, 2);
        Edge.due("one for 2 rather than two for 2, though greater as bits", 4, x.give(7, 0));
        x.price(3, 0);
        Edge.due("not one more for nothing", 4, x.give(15, 0));
        for (int n = 0; n < 4; n++) {
            x.price(n, 0);
        }
        Edge.due("all cost nothing: one", 4, x.give(15, 0));
        Edge.due("of two the least", 1, x.give(5, 0));
        Edge.due("of two the least", 2, x.give(6, 0));
    }

    @Says(in = "Terms 4", words = "GIVEN UP: the LAWS of a SET without which it isn't OUT")
    static void t4GivenAll() {
        NineDemands x = Edge.withTexts("0", "0", "1", "c<c");
        Edge.due("all that no RULE keeps", 11, x.give(15, 0));
        Edge.due("for 3", 3, x.give(15, 1));
        Edge.due("the whole SET", 11, x.give(11, 0));
    }

    @Says(in = "Terms 4", words = "A LAW FOLLOWS from a SET, if all RULES that FIT keep it")
    static void t4Follows() {
        NineDemands x = Edge.withTexts("c=1", "c<3", "0", "1");
        Edge.due("from c=1", 1, x.follows(1, 1));
        Edge.due("not from c<3", 0, x.follows(2, 0));
        Edge.due("what all keep follows from nothing", 1, x.follows(0, 3));
        Edge.due("what none keeps doesn't", 0, x.follows(3, 2));
        Edge.due("from OUT all follows", 1, x.follows(4, 0));
    }

    // ---- 22: show

    @Says(in = "Promise 22", words = "what -1 how many STEPS, -2 1 if it is a PROOF, else 0, else STEP what")
    static void p22What() {
        NineDemands x = ruledByOne();
        Edge.due("show(3, -1)", 9, x.show(3, -1));
        Edge.due("show(3, -2)", 1, x.show(3, -2));
        Edge.due("show(1, -1)", 8, x.show(1, -1));
        Edge.due("show(1, -2)", 0, x.show(1, -2));
        Edge.due("show(3, 0)", 2, x.show(3, 0));
        Edge.due("show(3, 8), the last", 54, x.show(3, 8));
        Edge.due("show(0, -1)", 0, x.show(0, -1));
        Edge.due("show(0, -2)", 0, x.show(0, -2));
    }

    @Says(in = "Promise 22", words = "BEYOND: SET, what below -2")
    static void p22NoSuchSet() {
        NineDemands x = Edge.five();
        for (int set : NO_SETS) {
            for (int what : new int[] {-2, -1, 0}) {
                Edge.due("show(" + set + ", " + what + ")", Edge.BEYOND, x.show(set, what));
            }
        }
    }

    @Says(in = "Promise 22", words = "what below -2")
    static void p22WhatBelow() {
        NineDemands x = Edge.five();
        for (int what : new int[] {-3, -4, -100, Edge.LEAST}) {
            Edge.due("show(31, " + what + ")", Edge.BEYOND, x.show(31, what));
            Edge.due("show(0, " + what + ")", Edge.BEYOND, x.show(0, what));
        }
    }

    @Says(in = "Promise 22", words = "NONE: there is no such STEP")
    static void p22NoSuchStep() {
        NineDemands x = Edge.withTexts("0");
        Edge.due("show(0, 0)", Edge.NONE, x.show(0, 0));
        Edge.due("show(1, 2), the last", 3, x.show(1, 2));
        for (int what : new int[] {3, 35, 36, 37, 40, Edge.GREATEST}) {
            Edge.due("show(1, " + what + ")", Edge.NONE, x.show(1, what));
        }
    }

    // ---- 23: check

    @Says(in = "Promise 23", words = "0 if they do, and a HALL has no CHOICE left behind the last one")
    static void p23Proof() {
        NineDemands x = ruledByOne();
        dueCheck("THE SHOWING itself", x, 3, 0, 2, 3, 5, 7, 10, 11, 13, 15, 54);
        dueCheck("a shorter one", x, 3, 0, 5, 7, 10, 11, 54);
        dueCheck("one that goes on behind it", x, 3, 0, 5, 7, 10, 11, 54, 2, 3);
        dueCheck("the shortest", Edge.withTexts("0"), 1, 0, 3, 1, 2);
    }

    @Says(in = "Promise 23", words = "1 more than the place of the first number that doesn't FOLLOW")
    static void p23FirstThatDoesNot() {
        NineDemands x = ruledByOne();
        dueCheck("the first", x, 3, 1, 1, 3);
        dueCheck("the second", x, 3, 2, 5, 6, 1);
        dueCheck("the last", x, 3, 5, 5, 7, 10, 11, 58);
        dueCheck("one behind the HALL that has none left", x, 3, 6, 5, 7, 10, 11, 54, 1);
        dueCheck("one that comes too early", x, 3, 3, 5, 7, 54, 10, 11);
        dueCheck("just early enough", x, 3, 0, 5, 7, 10, 54);
    }

    @Says(in = "Promise 23", words = "(1 more than how many there are, if all do)")
    static void p23AllDoButNoProof() {
        NineDemands x = ruledByOne();
        dueCheck("no numbers", x, 3, 1);
        dueCheck("one", x, 3, 2, 5);
        dueCheck("four", x, 3, 5, 5, 7, 10, 11);
        dueCheck("without ALIKE", x, 1, 9, 2, 3, 5, 7, 10, 11, 13, 15);
    }

    @Says(in = "Promise 23", words = "Numbers of a SHEET are STEPS, one behind the other")
    static void p23AllForty() {
        NineDemands x = Edge.withTexts("0");
        x.sheet(0, 16, 40);
        int at = 0;
        for (int hall = 0; hall < 12; hall++) {
            for (int choice = 1; choice <= 3; choice++) {
                x.put(0, at, step(0, hall, choice));
                at++;
            }
        }
        Edge.due("36 that follow and a 0", 37, x.check(1, 0));
        x.put(0, 35, 0);
        Edge.due("35 that follow and a 0", 36, x.check(1, 0));
    }

    @Says(in = "Promise 23", words = "Numbers of a SHEET are STEPS")
    static void p23OfAnyBits() {
        for (int bits : new int[] {8, 16, 32}) {
            NineDemands x = ruledByOne();
            Edge.sheet(x, 3, bits, 5, 7, 10, 11, 54);
            Edge.due("check(3, 3) with " + bits + " bits", 0, x.check(3, 3));
            Edge.dueRule("behind check()", "333333333333", x);
        }
    }

    @Says(in = "Promise 23", words = "BEYOND: SET, SHEET")
    static void p23NoSuchSetOrSheet() {
        NineDemands x = Edge.five();
        x.sheet(0, 16, 1);
        for (int set : NO_SETS) {
            Edge.due("check(" + set + ", 0)", Edge.BEYOND, x.check(set, 0));
        }
        for (int sheet : new int[] {Edge.LEAST, -1, 4, 5, Edge.GREATEST}) {
            Edge.due("check(0, " + sheet + ")", Edge.BEYOND, x.check(0, sheet));
        }
    }

    @Says(in = "Promise 23", words = "NONE: it is missing")
    static void p23Missing() {
        NineDemands x = Edge.five();
        for (int sheet = 0; sheet < 4; sheet++) {
            Edge.due("check(0, " + sheet + ")", Edge.NONE, x.check(0, sheet));
        }
        x.sheet(3, 8, 0);
        Edge.due("check(0, 3) of an empty one", 1, x.check(0, 3));
        x.sheet(3, 0, 0);
        Edge.due("check(0, 3) of one that is missing again", Edge.NONE, x.check(0, 3));
    }

    // ---- 24 to 26: small, few, give

    @Says(in = "Promise 24", words = "SMALL (bits)")
    static void p24Small() {
        NineDemands x = Edge.five();
        Edge.due("small(31)", 28, x.small(31));
        Edge.due("small(28)", 28, x.small(28));
        NineDemands y = new NineDemands();
        for (int n = 0; n < 7; n++) {
            y.law(5, 0);
        }
        Edge.law(y, 0, 0, "c=3");
        Edge.due("LAW 7 with the least of the others", 129, y.small(255));
        Edge.due("LAW 7 with LAW 6", 192, y.small(192));
    }

    /** HALL 0 chooses A, so does 4, so do all of three, so that 3 would choose both, which it may not. */
    private static NineDemands allEightNeeded() {
        NineDemands x = Edge.withTexts("!(p+q=0&s=2)|!(c=2)", "!(p+q=0&s=2)|c<3");
        Edge.law(x, 4, 1, "c=d|p+q+w");
        for (int i = 0; i < 3; i++) {
            Edge.law(x, 1, 1, "s=2|c=d|!(i=" + i + ")");
        }
        Edge.law(x, 4, 1, "!(d=1)|c=3|p+q+w<3");
        Edge.law(x, 0, 1, "!(p&q&s=2)|c<3");
        return x;
    }

    @Says(in = "Promise 24", words = "SMALL (bits)")
    static void p24OneAlone() {
        NineDemands x = Edge.withTexts("0", "1", "c=1", "c=2", "0");
        Edge.due("LAW 0", 1, x.small(31));
        Edge.due("LAW 0", 1, x.small(3));
        Edge.due("LAW 0", 1, x.small(1));
        Edge.due("LAW 4, though 2 and 3 are less as bits", 16, x.small(30));
        Edge.due("2 and 3", 12, x.small(14));
    }

    @Says(in = "Promise 24", words = "SMALL (bits)")
    static void p24AllEight() {
        NineDemands x = allEightNeeded();
        Edge.due("all eight are needed", 255, x.small(255));
        for (int n = 0; n < 8; n++) {
            Edge.due("without LAW " + n, Edge.STATE, x.small(255 - (1 << n)));
        }
        Edge.due("the first is given up", 1, x.give(255, 0));
        Edge.due("none is spare", 0, x.spare(255));
    }

    @Says(in = "Promise 25", words = "FEW: HALLS as bits")
    static void p25SixHalls() {
        int halls = 1 | 1 << 3 | 1 << 4 | 1 << 5 | 1 << 7 | 1 << 11;
        Edge.due("0, 4, the least way to 11, and 3", halls, allEightNeeded().few(255));
    }

    @Says(in = "Promise 24", words = "BEYOND")
    static void p24NoSuchSet() {
        NineDemands x = Edge.five();
        for (int set : NO_SETS) {
            Edge.due("small(" + set + ")", Edge.BEYOND, x.small(set));
        }
    }

    @Says(in = "Promise 24", words = "STATE: the SET isn't OUT")
    static void p24NotOut() {
        NineDemands x = Edge.five();
        for (int set : new int[] {0, 1, 3, 12, 15, 20, 24, 27}) {
            Edge.due("small(" + set + ")", Edge.STATE, x.small(set));
        }
        Edge.due("small(0) without LAWS", Edge.STATE, new NineDemands().small(0));
    }

    @Says(in = "Promise 25", words = "FEW: HALLS as bits")
    static void p25OneHallOrMore() {
        for (int h = 4; h < 12; h++) {
            int bits = h - 4;
            String text = "!(p=" + bits % 2 + "&q=" + bits / 2 % 2 + "&r=" + bits / 4 + ")";
            Edge.due("few(1) of " + text, 1 << h, Edge.withTexts(text).few(1));
        }
        for (int h = 0; h < 4; h++) {
            String text = "!(p=" + h % 2 + "&q=" + h / 2 + "&r=2)";
            Edge.due("few(1) of " + text, 1 << h, Edge.withTexts(text).few(1));
        }
        NineDemands x = Edge.five();
        Edge.due("few(31)", 6, x.few(31));
    }

    @Says(in = "Promise 25", words = "FEW: HALLS as bits")
    static void p25OneSetBehindAnother() {
        NineDemands x = allEightNeeded();
        int halls = 1 | 1 << 3 | 1 << 4 | 1 << 5 | 1 << 7 | 1 << 11;
        Edge.due("few(255)", halls, x.few(255));
        Edge.due("rules(0)", 531441, x.rules(0));
        Edge.due("few(255) behind rules(0)", halls, x.few(255));
        NineDemands y = ruledByOne();
        Edge.law(y, 0, 1, "s=2|b<3");
        Edge.due("few(4)", 2048, y.few(4));
        Edge.due("few(3) behind few(4)", 6, y.few(3));
        Edge.due("few(7) behind few(3)", 2048, y.few(7));
        Edge.due("few(3) behind few(7)", 6, y.few(3));
    }

    private static boolean fitsOn(int halls, int h, int[] rule, List<int[]> notSo) {
        if (h == 12) {
            return true;
        }
        if ((halls >> h & 1) == 0) {
            return fitsOn(halls, h + 1, rule, notSo);
        }
        for (rule[h] = 1; rule[h] <= 3; rule[h]++) {
            boolean so = true;
            for (int[] no : notSo) {
                boolean counts = no[0] <= h && no[1] <= h && (halls >> no[0] & halls >> no[1] & 1) != 0;
                so = so && !(counts && rule[no[0]] == no[2] && rule[no[1]] == no[3]);
            }
            if (so && fitsOn(halls, h + 1, rule, notSo)) {
                return true;
            }
        }
        return false;
    }

    private static NineDemands uneven(String moved, String comes, int kind) {
        NineDemands x = new NineDemands();
        Edge.law(x, 1, 1, moved);
        Edge.law(x, 4, 1, comes);
        if (kind > 0) {
            x.law(kind, 1);
        }
        return x;
    }

    /** Tries HALLS, the fewest first, then the least as bits, until nothing FITS. */
    private static void dueFew(String moved, String comes, int kind) {
        List<int[]> notSo = Edge.notSo(() -> uneven(moved, comes, kind));
        NineDemands x = uneven(moved, comes, kind);
        int want = Edge.STATE;
        for (int size = 0; size <= 12 && want < 0; size++) {
            for (int halls = 0; halls < 4096 && want < 0; halls++) {
                if (Integer.bitCount(halls) == size && !fitsOn(halls, 0, new int[12], notSo)) {
                    want = halls;
                }
            }
        }
        Edge.due("few() by " + moved + ", " + comes + ", KIND " + kind, want, x.few((1 << x.count(0)) - 1));
    }

    @Says(in = "Promise 25", words = "FEW: HALLS as bits")
    static void p25AllHallsTried() {
        dueFew("(c*1+d*7+p*3+q*2+i*2)%3", "(c*6+d*5+p*3+q*2+w*2)%5", 0);
        dueFew("(c*4+d*1+p*0+q*1+i*1)%3", "(c*4+d*1+p*3+q*3+w*0)%4", 0);
        dueFew("(c*6+d*4+p*1+q*3+i*1)%5", "(c*3+d*1+p*0+q*2+w*0)%3", 0);
        dueFew("(c*3+d*2+p*2+q*0+i*0)%5", "(c*5+d*3+p*3+q*1+w*1)%6", 0);
        dueFew("(c*7+d*6+p*0+q*3+i*0)%4", "(c*7+d*6+p*3+q*2+w*1)%5", 2);
        dueFew("(c*6+d*6+p*3+q*1+i*1)%5", "(c*3+d*2+p*2+q*2+w*2)%4", 3);
        dueFew("(c*4+d*3+p*0+q*1+i*1)%5", "(c*7+d*3+p*3+q*1+w*0)%5", 3);
        dueFew("(c*5+d*4+p*0+q*0+i*0)%3", "(c*3+d*7+p*0+q*1+w*1)%4", 5);
        dueFew("(c*4+d*5+p*3+q*1+i*1)%3", "(c*4+d*1+p*2+q*3+w*0)%6", 5);
        dueFew("(c*3+d*5+p+q*2+i*3)%7", "(c+d*2+p+q+w)%5", 0);
    }

    @Says(in = "Promise 25", words = "BEYOND")
    static void p25NoSuchSet() {
        NineDemands x = Edge.five();
        for (int set : NO_SETS) {
            Edge.due("few(" + set + ")", Edge.BEYOND, x.few(set));
        }
    }

    @Says(in = "Promise 25", words = "STATE: the SET isn't OUT")
    static void p25NotOut() {
        NineDemands x = Edge.five();
        for (int set : new int[] {0, 1, 3, 12, 15, 20, 24, 27}) {
            Edge.due("few(" + set + ")", Edge.STATE, x.few(set));
        }
        Edge.due("few(0) without LAWS", Edge.STATE, new NineDemands().few(0));
    }

    @Says(in = "Promise 26", words = "GIVEN UP: what 0 as bits, 1 PRICE together")
    static void p26BitsAndPrice() {
        NineDemands x = Edge.five();
        Edge.due("give(31, 0)", 8, x.give(31, 0));
        Edge.due("give(31, 1)", 2, x.give(31, 1));
        Edge.due("give(0, 0)", 0, x.give(0, 0));
        Edge.due("give(0, 1)", 0, x.give(0, 1));
        Edge.due("give(15, 1), not OUT", 0, x.give(15, 1));
        Edge.due("LAWS stay", 5, x.count(0));
    }

    @Says(in = "Promise 26", words = "1 PRICE together")
    static void p26AllPrices() {
        NineDemands x = new NineDemands();
        for (int n = 0; n < 8; n++) {
            Edge.law(x, 0, 99, "0");
        }
        Edge.due("all eight", 255, x.give(255, 0));
        Edge.due("8 times 99", 792, x.give(255, 1));
    }

    @Says(in = "Promise 26", words = "BEYOND")
    static void p26NoSuchSetOrQuestion() {
        NineDemands x = Edge.five();
        for (int set : NO_SETS) {
            Edge.due("give(" + set + ", 0)", Edge.BEYOND, x.give(set, 0));
            Edge.due("give(" + set + ", 1)", Edge.BEYOND, x.give(set, 1));
        }
        for (int what : new int[] {Edge.LEAST, -1, 2, 3, Edge.GREATEST}) {
            Edge.due("give(31, " + what + ")", Edge.BEYOND, x.give(31, what));
            Edge.due("give(0, " + what + ")", Edge.BEYOND, x.give(0, what));
        }
    }

    // ---- 27 to 29: follows, spare, same

    @Says(in = "Promise 27", words = "1 if a LAW FOLLOWS from a SET, else 0")
    static void p27OneOrNothing() {
        NineDemands x = Edge.five();
        for (int n = 0; n < 5; n++) {
            Edge.due("follows(" + (1 << n) + ", " + n + ") from itself", 1, x.follows(1 << n, n));
            Edge.due("follows(0, " + n + ") from none", 0, x.follows(0, n));
            Edge.due("follows(28, " + n + ") from OUT", 1, x.follows(28, n));
        }
        Edge.due("follows(15, 4)", 0, x.follows(15, 4));
        Edge.due("follows(9, 1): TURNED and one want", 1, x.follows(9, 1));
    }

    @Says(in = "Promise 27", words = "BEYOND")
    static void p27NoSuchSetOrLaw() {
        NineDemands x = Edge.five();
        for (int set : NO_SETS) {
            Edge.due("follows(" + set + ", 0)", Edge.BEYOND, x.follows(set, 0));
        }
        for (int law : new int[] {Edge.LEAST, -1, 5, 8, 31, 32, Edge.GREATEST}) {
            Edge.due("follows(0, " + law + ")", Edge.BEYOND, x.follows(0, law));
        }
    }

    @Says(in = "Promise 28", words = "LAWS (bits) of a SET that FOLLOW from the others of it")
    static void p28Spare() {
        NineDemands x = Edge.withTexts("c=1", "c<3", "1", "c=1");
        Edge.due("none of none", 0, x.spare(0));
        Edge.due("what all keep, alone", 4, x.spare(4));
        Edge.due("c<3 beside c=1", 2, x.spare(3));
        Edge.due("each of two alike", 9, x.spare(9));
        Edge.due("all", 15, x.spare(15));
        Edge.due("c=1 alone", 0, x.spare(1));
        Edge.due("of five", 3, Edge.five().spare(31));
        NineDemands y = new NineDemands();
        for (int n = 0; n < 8; n++) {
            y.law(5, 0);
        }
        Edge.due("all eight", 255, y.spare(255));
        Edge.due("LAW 7 alone", 0, y.spare(128));
    }

    @Says(in = "Promise 28", words = "BEYOND")
    static void p28NoSuchSet() {
        NineDemands x = Edge.five();
        for (int set : NO_SETS) {
            Edge.due("spare(" + set + ")", Edge.BEYOND, x.spare(set));
        }
    }

    @Says(in = "Promise 29", words = "1 if the same RULES FIT by two SETS, else 0")
    static void p29Same() {
        NineDemands x = Edge.withTexts("c=1", "c<3&c=1", "c=2", "1");
        Edge.due("a SET and itself", 1, x.same(5, 5));
        Edge.due("none and none", 1, x.same(0, 0));
        Edge.due("none and what all keep", 1, x.same(0, 8));
        Edge.due("alike LAWS", 1, x.same(1, 2));
        Edge.due("as many, but others", 0, x.same(1, 4));
        Edge.due("both OUT", 1, x.same(5, 6));
        Edge.due("one OUT", 0, x.same(5, 1));
        Edge.due("the other OUT", 0, x.same(1, 5));
        Edge.due("less", 0, x.same(0, 1));
        Edge.due("more", 0, x.same(1, 0));
    }

    @Says(in = "Promise 29", words = "BEYOND")
    static void p29NoSuchSets() {
        NineDemands x = Edge.five();
        for (int set : NO_SETS) {
            Edge.due("same(" + set + ", 0)", Edge.BEYOND, x.same(set, 0));
            Edge.due("same(0, " + set + ")", Edge.BEYOND, x.same(0, set));
            Edge.due("same(" + set + ", " + set + ")", Edge.BEYOND, x.same(set, set));
        }
    }

    public static void main(String[] args) {
        Edge.run(EdgeShowingTests.class);
    }
}
