/** Promises 1 to 7, sentence by sentence: halls, the told rule. */
public final class EdgeHallsTests {
    private static final int[] NO_HALLS = {-1, 12, 13, Edge.LEAST, Edge.GREATEST};

    // ---- 1: a new object

    @Says(in = "Promise 1", words = "No LAWS")
    static void p01NoLaws() {
        NineDemands x = new NineDemands();
        Edge.due("count(0)", 0, x.count(0));
        Edge.due("breach(0)", Edge.BEYOND, x.breach(0));
        Edge.due("rules(1)", Edge.BEYOND, x.rules(1));
        Edge.due("kept()", 0, x.kept());
    }

    @Says(in = "Promise 1", words = "THE TOLD RULE chooses both everywhere")
    static void p01BothEverywhere() {
        Edge.dueRule("at first", "333333333333", new NineDemands());
        Edge.due("count(2)", 12, new NineDemands().count(2));
    }

    @Says(in = "Promise 1", words = "No LAWS; THE TOLD RULE chooses both everywhere")
    static void p01ObjectsShareNothing() {
        NineDemands one = Edge.five();
        one.form(0);
        one.tell(1);
        one.image();
        one.sheet(0, 8, 1);
        one.told(0);
        NineDemands other = new NineDemands();
        Edge.dueRule("of another object", "333333333333", other);
        for (int what : new int[] {0, 1, 3, 4, 5}) {
            Edge.due("count(" + what + ") of another object", 0, other.count(what));
        }
        Edge.dueTold(other, 0, 0, 0, 0, 0);
        Edge.due("restore() of another object", Edge.NONE, other.restore());
        Edge.due("block(0) of another object", Edge.NONE, other.block(0));
    }

    // ---- 2: hall

    @Says(in = "Promise 2", words = "0 how many PEOPLE")
    static void p02People() {
        NineDemands x = new NineDemands();
        for (int h = 0; h < 12; h++) {
            Edge.due("hall(" + h + ", 0)", h <= 3 ? 2 : 3, x.hall(h, 0));
        }
    }

    @Says(in = "Promise 2", words = "1 how many want A, 2 how many want B")
    static void p02HowManyWant() {
        NineDemands x = new NineDemands();
        int[] wantA = {2, 1, 1, 0, 3, 2, 2, 1, 2, 1, 1, 0};
        for (int h = 0; h < 12; h++) {
            Edge.due("hall(" + h + ", 1)", wantA[h], x.hall(h, 1));
            Edge.due("hall(" + h + ", 2)", (h <= 3 ? 2 : 3) - wantA[h], x.hall(h, 2));
        }
    }

    @Says(in = "Promise 2", words = "10 and i what PERSON i wants (0, 1; 2: not there)")
    static void p02WhatEachWants() {
        NineDemands x = new NineDemands();
        String[] wants = {"002", "102", "012", "112", "000", "100", "010", "110", "001", "101", "011", "111"};
        for (int h = 0; h < 12; h++) {
            for (int i = 0; i < 3; i++) {
                Edge.due("hall(" + h + ", " + (10 + i) + ")", wants[h].charAt(i) - '0', x.hall(h, 10 + i));
            }
        }
    }

    @Says(in = "Promise 2", words = "BEYOND")
    static void p02NoSuchHall() {
        NineDemands x = new NineDemands();
        for (int h : NO_HALLS) {
            for (int what : new int[] {0, 1, 2, 10, 11, 12}) {
                Edge.due("hall(" + h + ", " + what + ")", Edge.BEYOND, x.hall(h, what));
            }
        }
    }

    @Says(in = "Promise 2", words = "BEYOND")
    static void p02NoSuchQuestion() {
        NineDemands x = new NineDemands();
        for (int what : new int[] {Edge.LEAST, -10, -1, 3, 4, 9, 13, 20, Edge.GREATEST}) {
            Edge.due("hall(0, " + what + ")", Edge.BEYOND, x.hall(0, what));
            Edge.due("hall(11, " + what + ")", Edge.BEYOND, x.hall(11, what));
        }
    }

    // ---- 3: moved

    @Says(in = "Promise 3", words = "The HALL that is like one but that a PERSON wants the other THING")
    static void p03Moved() {
        NineDemands x = new NineDemands();
        int[][] due = {
            {1, 2}, {0, 3}, {3, 0}, {2, 1}, {5, 6, 8}, {4, 7, 9}, {7, 4, 10}, {6, 5, 11}, {9, 10, 4}, {8, 11, 5},
            {11, 8, 6}, {10, 9, 7},
        };
        for (int h = 0; h < 12; h++) {
            for (int i = 0; i < due[h].length; i++) {
                Edge.due("moved(" + h + ", " + i + ")", due[h][i], x.moved(h, i));
            }
        }
        Edge.dueRule("behind moved()", "333333333333", x);
    }

    @Says(in = "Promise 3", words = "BEYOND")
    static void p03NoSuchHall() {
        NineDemands x = new NineDemands();
        for (int h : NO_HALLS) {
            for (int i = 0; i < 3; i++) {
                Edge.due("moved(" + h + ", " + i + ")", Edge.BEYOND, x.moved(h, i));
            }
        }
    }

    @Says(in = "Promise 3", words = "BEYOND")
    static void p03NoSuchPerson() {
        NineDemands x = new NineDemands();
        for (int i : new int[] {Edge.LEAST, -1, 3, 4, 32, Edge.GREATEST}) {
            Edge.due("moved(0, " + i + ")", Edge.BEYOND, x.moved(0, i));
            Edge.due("moved(4, " + i + ")", Edge.BEYOND, x.moved(4, i));
        }
    }

    @Says(in = "Promise 3", words = "NONE: the PERSON isn't there")
    static void p03NotThere() {
        NineDemands x = new NineDemands();
        for (int h = 0; h < 4; h++) {
            Edge.due("moved(" + h + ", 2)", Edge.NONE, x.moved(h, 2));
        }
        Edge.due("moved(4, 2): there", 8, x.moved(4, 2));
    }

    // ---- 4 and 5: choose, chosen

    @Says(in = "Promise 4", words = "THE TOLD RULE chooses so in a HALL: what it chose")
    static void p04WhatItChose() {
        NineDemands x = new NineDemands();
        for (int h = 0; h < 12; h++) {
            Edge.due("choose(" + h + ", 1)", 3, x.choose(h, 1));
            Edge.due("choose(" + h + ", 2)", 1, x.choose(h, 2));
            Edge.due("choose(" + h + ", 2) again", 2, x.choose(h, 2));
            Edge.due("chosen(" + h + ")", 2, x.chosen(h));
        }
    }

    @Says(in = "Promise 4", words = "THE TOLD RULE chooses so in a HALL")
    static void p04OnlyThere() {
        NineDemands x = new NineDemands();
        x.choose(0, 1);
        x.choose(11, 2);
        x.choose(4, 1);
        Edge.dueRule("behind three", "133313333332", x);
    }

    @Says(in = "Promise 4", words = "BEYOND")
    static void p04NoSuchHall() {
        NineDemands x = new NineDemands();
        for (int h : NO_HALLS) {
            Edge.due("choose(" + h + ", 1)", Edge.BEYOND, x.choose(h, 1));
        }
        Edge.dueRule("behind BEYOND", "333333333333", x);
    }

    @Says(in = "Promise 4", words = "BEYOND")
    static void p04NoChoice() {
        NineDemands x = new NineDemands();
        for (int choice : new int[] {Edge.LEAST, -1, 0, 4, 5, Edge.GREATEST}) {
            Edge.due("choose(11, " + choice + ")", Edge.BEYOND, x.choose(11, choice));
        }
        Edge.dueRule("behind BEYOND", "333333333333", x);
    }

    @Says(in = "Promise 5", words = "What THE TOLD RULE chooses in a HALL")
    static void p05Chosen() {
        NineDemands x = new NineDemands();
        Edge.tellRule(x, "123123123123");
        for (int h = 0; h < 12; h++) {
            Edge.due("chosen(" + h + ")", 1 + h % 3, x.chosen(h));
        }
    }

    @Says(in = "Promise 5", words = "BEYOND")
    static void p05NoSuchHall() {
        NineDemands x = new NineDemands();
        for (int h : NO_HALLS) {
            Edge.due("chosen(" + h + ")", Edge.BEYOND, x.chosen(h));
        }
    }

    // ---- 6: block

    @Says(in = "Promise 6", words = "what the numbers of a SHEET say (the first 12 at most): how many")
    static void p06FewerThanTwelve() {
        NineDemands x = new NineDemands();
        Edge.sheet(x, 0, 8, 1, 2, 1);
        Edge.due("block of 3", 3, x.block(0));
        Edge.dueRule("behind 3 numbers", "121333333333", x);
    }

    @Says(in = "Promise 6", words = "what the numbers of a SHEET say (the first 12 at most): how many")
    static void p06AnEmptyOne() {
        NineDemands x = new NineDemands();
        x.sheet(0, 8, 0);
        x.form(3);
        Edge.due("block of none", 0, x.block(0));
        Edge.dueRule("behind no numbers", "121212121212", x);
    }

    @Says(in = "Promise 6", words = "the first 12 at most")
    static void p06TwelveAtMost() {
        for (int bits : new int[] {8, 16, 32}) {
            NineDemands x = new NineDemands();
            Edge.sheet(x, 3, bits, 1, 2, 3, 3, 2, 1, 1, 2, 3, 3, 2, 1);
            Edge.due("block of 12", 12, x.block(3));
            Edge.dueRule("behind 12 numbers", "123321123321", x);
            Edge.sheet(x, 3, bits, 2, 2, 2, 2, 2, 2, 2, 2, 2, 2, 2, 2, 1);
            Edge.due("block of 13", 12, x.block(3));
            Edge.dueRule("behind 13 numbers", "222222222222", x);
        }
    }

    @Says(in = "Promise 6", words = "the first 12 at most")
    static void p06WhatIsBehindIsNotAsked() {
        NineDemands x = new NineDemands();
        x.sheet(1, 32, 40);
        for (int i = 0; i < 12; i++) {
            x.put(1, i, 1);
        }
        x.put(1, 12, 4);
        Edge.due("block of 40", 12, x.block(1));
        Edge.dueRule("behind 40 numbers", "111111111111", x);
    }

    @Says(in = "Promise 6", words = "BEYOND")
    static void p06NoSuchSheet() {
        NineDemands x = new NineDemands();
        for (int sheet : new int[] {Edge.LEAST, -1, 4, 5, Edge.GREATEST}) {
            Edge.due("block(" + sheet + ")", Edge.BEYOND, x.block(sheet));
        }
    }

    @Says(in = "Promise 6", words = "NONE: it is missing")
    static void p06Missing() {
        NineDemands x = new NineDemands();
        for (int sheet = 0; sheet < 4; sheet++) {
            Edge.due("block(" + sheet + ") at first", Edge.NONE, x.block(sheet));
        }
        Edge.sheet(x, 2, 16, 1, 1);
        x.sheet(2, 0, 0);
        Edge.due("block(2) when it is missing again", Edge.NONE, x.block(2));
        Edge.dueRule("behind NONE", "333333333333", x);
    }

    @Says(in = "Promise 6", words = "KIND: one of these isn't a CHOICE")
    static void p06NoChoice() {
        for (int no : new int[] {Edge.LEAST, -1, 0, 4, 259, 65537, Edge.GREATEST}) {
            for (int at : new int[] {0, 5, 11}) {
                NineDemands x = new NineDemands();
                Edge.sheet(x, 0, 32, 1, 1, 1, 1, 1, 1, 1, 1, 1, 1, 1, 1);
                x.put(0, at, no);
                Edge.due("block with " + no + " at " + at, Edge.KIND, x.block(0));
                Edge.dueRule("behind KIND", "333333333333", x);
            }
        }
    }

    // ---- 7: form

    @Says(in = "Promise 7", words = "how many HALLS it changed")
    static void p07HowMany() {
        NineDemands x = new NineDemands();
        Edge.due("both stays both", 0, x.form(2));
        Edge.due("all to A", 12, x.form(0));
        Edge.due("A again", 0, x.form(0));
        Edge.due("from A to what PERSON 0 wants", 6, x.form(3));
        x.choose(0, 3);
        Edge.due("one back", 1, x.form(3));
    }

    @Says(in = "Promise 7", words = "BEYOND")
    static void p07NoSuchForm() {
        NineDemands x = new NineDemands();
        for (int form : new int[] {Edge.LEAST, -1, 12, 13, Edge.GREATEST}) {
            Edge.due("form(" + form + ")", Edge.BEYOND, x.form(form));
        }
        Edge.dueRule("behind BEYOND", "333333333333", x);
        Edge.due("form(11), the last one", 12, x.form(11));
    }

    public static void main(String[] args) {
        Edge.run(EdgeHallsTests.class);
    }
}
