import java.util.List;

/** Terms 4 (SETS, THE FIRST RULE, FORMS) and promises 16 to 21, sentence by sentence: rules by a set of laws. */
public final class EdgeRulesTests {
    private static final int[] NO_HALLS = {Edge.LEAST, -1, 12, 13, Edge.GREATEST};
    /** None of these is a SET where there are five LAWS. */
    private static final int[] NO_SETS = {Edge.LEAST, -1, 32, 33, 64, 255, 256, Edge.GREATEST};

    // ---- Terms 4: which RULES FIT, which is the first

    @Says(in = "Terms 4", words = "By a SET of LAWS (bits): a RULE FITS if it keeps all of these")
    static void t4Fits() {
        NineDemands x = Edge.withTexts("s=3|c=1", "s=2|c=2");
        Edge.due("by none of them all do", 531441, x.rules(0));
        Edge.due("by LAW 0", 6561, x.rules(1));
        Edge.due("by LAW 1", 81, x.rules(2));
        Edge.due("by both", 1, x.rules(3));
    }

    @Says(in = "Terms 4", words = "By a SET of LAWS (bits)")
    static void t4SetsOfEight() {
        NineDemands x = new NineDemands();
        for (int h = 4; h < 12; h++) {
            int bits = h - 4;
            Edge.law(x, 0, 0, "!(p=" + bits % 2 + "&q=" + bits / 2 % 2 + "&r=" + bits / 4 + ")|c=2");
        }
        int rules = 531441;
        for (int n = 1; n <= 8; n++) {
            rules /= 3;
            Edge.due("by the first " + n, rules, x.rules((1 << n) - 1));
        }
        Edge.due("by LAW 7 alone", 177147, x.rules(128));
        Edge.due("LAW 7 is about HALL 11", 2, x.find(128, 11));
        Edge.due("and no other", 1, x.find(128, 10));
        Edge.due("SET 256", Edge.BEYOND, x.rules(256));
    }

    private static void dueFirst(NineDemands x, int set, String want) {
        for (int h = 0; h < 12; h++) {
            Edge.due("find(" + set + ", " + h + ")", want.charAt(h) - '0', x.find(set, h));
        }
    }

    @Says(in = "Terms 4", words = "THE FIRST RULE: of all that FIT that which has the least CHOICE in the first HALL in which two are unlike")
    static void t4LeastInTheFirstHall() {
        NineDemands x = new NineDemands();
        dueFirst(x, 0, "111111111111");
        Edge.law(x, 1, 0, "!(c=d)");
        dueFirst(x, 1, "122112212112");
        Edge.law(x, 0, 0, "c>1");
        dueFirst(x, 2, "222222222222");
        dueFirst(x, 3, "233223323223");
        Edge.law(x, 1, 0, "s=3|c>1");
        dueFirst(x, 4, "222211111111");
        Edge.law(x, 1, 0, "s=2|c>1");
        dueFirst(x, 8, "111122222222");
    }

    @Says(in = "Terms 4", words = "the least CHOICE in the first HALL in which two are unlike")
    static void t4AnEarlierHallCountsMore() {
        NineDemands x = new NineDemands();
        Edge.law(x, 4, 0, "c+d=4");
        dueFirst(x, 1, "111133333333");
        Edge.law(x, 0, 0, "s=2|r|c<3");
        dueFirst(x, 3, "222222222222");
        Edge.law(x, 0, 0, "s=2|p+q+r<3|c=1");
        Edge.due("3 of HALL 3 would need 1 of 7 and of 11", 3, x.find(7, 3));
        Edge.due("so 7 has the 1", 1, x.find(7, 7));
        Edge.due("as 11", 1, x.find(7, 11));
    }

    @Says(in = "Terms 4", words = "of all that FIT")
    static void t4WhatSeemsLeastMayNotFit() {
        NineDemands x = new NineDemands();
        Edge.law(x, 1, 0, "s=3|!(c=d)");
        x.law(3, 0);
        x.law(5, 0);
        Edge.law(x, 4, 0, "c=d|p=q");
        Edge.due("a square of two colours can't be TURNED", Edge.NONE, x.find(7, 0));
        dueFirst(x, 5, "122111111111");
        dueFirst(x, 13, "122112211221");
        Edge.due("A in HALL 0 leaves both in 1 and 2", 3, x.find(3, 1));
        dueFirst(x, 3, "133211112222");
    }

    @Says(in = "Terms 4", words = "A SET is OUT if none FITS")
    static void t4Out() {
        NineDemands x = Edge.five();
        for (int set = 0; set < 32; set++) {
            boolean out = (set & 28) == 28;
            Edge.due("rules(" + set + ") is 0", out ? 1 : 0, x.rules(set) == 0 ? 1 : 0);
            Edge.due("find(" + set + ", 0) is NONE", out ? 1 : 0, x.find(set, 0) == Edge.NONE ? 1 : 0);
            Edge.due("few(" + set + ") is STATE", out ? 0 : 1, x.few(set) == Edge.STATE ? 1 : 0);
        }
    }

    @Says(in = "Terms 4", words = "A SET is OUT if none FITS")
    static void t4TheEmptySetIsNot() {
        NineDemands x = Edge.withTexts("0");
        Edge.due("rules(0)", 531441, x.rules(0));
        Edge.due("rules(1)", 0, x.rules(1));
        Edge.due("small(0)", Edge.STATE, x.small(0));
        Edge.due("small(1)", 1, x.small(1));
    }

    private static void dueForm(int form, String want) {
        NineDemands x = new NineDemands();
        x.form(form);
        Edge.dueRule("as FORM " + form, want, x);
    }

    @Says(in = "Terms 4", words = "FORMS: 0 always A; 1 always B; 2 always both")
    static void t4FormsAlways() {
        dueForm(0, "111111111111");
        dueForm(1, "222222222222");
        dueForm(2, "333333333333");
    }

    @Says(in = "Terms 4", words = "3 what PERSON 0 wants; 4 what PERSON 1 wants")
    static void t4FormsOfOne() {
        dueForm(3, "121212121212");
        dueForm(4, "112211221122");
    }

    @Says(in = "Terms 4", words = "5 what more of them want, both if as many")
    static void t4FormOfMore() {
        dueForm(5, "133211121222");
    }

    @Says(in = "Terms 4", words = "6 so, but A if as many; 7 so, but B if as many; 8 so, but what PERSON 0 wants if as many")
    static void t4FormsIfAsMany() {
        dueForm(6, "111211121222");
        dueForm(7, "122211121222");
        dueForm(8, "121211121222");
    }

    @Says(in = "Terms 4", words = "9 what all of them want, else both")
    static void t4FormOfAll() {
        dueForm(9, "133213333332");
    }

    @Says(in = "Terms 4", words = "10 B if anyone wants it, else A; 11 A if anyone wants it, else B")
    static void t4FormsOfAnyone() {
        dueForm(10, "122212222222");
        dueForm(11, "111211111112");
    }

    // ---- 16: find

    @Says(in = "Promise 16", words = "What THE FIRST RULE by a SET chooses in a HALL")
    static void p16Find() {
        NineDemands x = Edge.five();
        dueFirst(x, 0, "111111111111");
        dueFirst(x, 15, "133211121222");
        dueFirst(x, 7, "111211111112");
        Edge.dueRule("behind find()", "333333333333", x);
    }

    @Says(in = "Promise 16", words = "BEYOND: SET, HALL")
    static void p16NoSuchSet() {
        NineDemands x = Edge.five();
        for (int set : NO_SETS) {
            Edge.due("find(" + set + ", 0)", Edge.BEYOND, x.find(set, 0));
        }
        Edge.due("find(1, 0) without LAWS", Edge.BEYOND, new NineDemands().find(1, 0));
    }

    @Says(in = "Promise 16", words = "BEYOND: SET, HALL")
    static void p16NoSuchHall() {
        NineDemands x = Edge.five();
        for (int hall : NO_HALLS) {
            Edge.due("find(0, " + hall + ")", Edge.BEYOND, x.find(0, hall));
        }
    }

    @Says(in = "Promise 16", words = "NONE: the SET is OUT")
    static void p16Out() {
        NineDemands x = Edge.five();
        for (int h = 0; h < 12; h++) {
            Edge.due("find(31, " + h + ")", Edge.NONE, x.find(31, h));
        }
        Edge.due("find(27, 0): not OUT", 1, x.find(27, 0));
    }

    // ---- 17: write

    @Says(in = "Promise 17", words = "THE TOLD RULE becomes THE FIRST RULE by a SET: in how many HALLS it chooses both")
    static void p17Write() {
        NineDemands x = Edge.withTexts("c=3", "s=3|c=3", "s=2|a|c=3");
        Edge.due("both in all", 12, x.write(1));
        Edge.dueRule("behind write(1)", "333333333333", x);
        Edge.due("both in none", 0, x.write(0));
        Edge.dueRule("behind write(0)", "111111111111", x);
        Edge.due("both in four", 4, x.write(2));
        Edge.dueRule("behind write(2)", "333311111111", x);
        Edge.due("both in one", 1, x.write(4));
        Edge.dueRule("behind write(4)", "111111111113", x);
    }

    @Says(in = "Promise 17", words = "BEYOND")
    static void p17NoSuchSet() {
        NineDemands x = Edge.five();
        x.form(5);
        for (int set : NO_SETS) {
            Edge.due("write(" + set + ")", Edge.BEYOND, x.write(set));
        }
        Edge.dueRule("behind BEYOND", "133211121222", x);
    }

    @Says(in = "Promise 17", words = "NONE")
    static void p17Out() {
        NineDemands x = Edge.five();
        x.form(5);
        Edge.due("write(28)", Edge.NONE, x.write(28));
        Edge.dueRule("behind NONE", "133211121222", x);
    }

    // ---- 18: rules

    @Says(in = "Promise 18", words = "How many RULES FIT by a SET")
    static void p18AllAndNone() {
        NineDemands x = Edge.withTexts("1", "0", "c=2", "c<3", "s=2|c=1");
        Edge.due("by none", 531441, x.rules(0));
        Edge.due("by one that all keep", 531441, x.rules(1));
        Edge.due("by one that none keeps", 0, x.rules(2));
        Edge.due("one alone", 1, x.rules(4));
        Edge.due("two CHOICES each", 4096, x.rules(8));
        Edge.due("the HALLS of two", 81, x.rules(16));
        Edge.due("OUT by two", 0, x.rules(20));
        Edge.due("all together", 0, x.rules(31));
        Edge.due("asked again", 4096, x.rules(8));
    }

    @Says(in = "Promise 18", words = "How many RULES FIT by a SET")
    static void p18ALaterLawCountsToo() {
        NineDemands x = Edge.withTexts("c<3");
        Edge.due("rules(1)", 4096, x.rules(1));
        Edge.due("rules(2) ahead of LAW 1", Edge.BEYOND, x.rules(2));
        x.law(2, 0);
        Edge.due("rules(2)", 2187, x.rules(2));
        Edge.due("rules(3)", 128, x.rules(3));
        x.law(3, 0);
        Edge.due("rules(7)", 0, x.rules(7));
        Edge.due("rules(5)", 64, x.rules(5));
    }

    @Says(in = "Promise 18", words = "How many RULES FIT by a SET")
    static void p18BehindOtherQuestions() {
        NineDemands x = Edge.five();
        x.find(7, 0);
        Edge.due("rules(7) behind find(7, 0)", 27, x.rules(7));
        x.small(6);
        Edge.due("rules(6) behind small(6)", 243, x.rules(6));
        x.near(5);
        Edge.due("rules(5) behind near(5)", 243, x.rules(5));
        x.may(3, 0);
        Edge.due("rules(3) behind may(3, 0)", 6561, x.rules(3));
        x.give(31, 0);
        Edge.due("rules(30) behind give(31, 0)", 0, x.rules(30));
        Edge.due("rules(23) behind give(31, 0)", 8, x.rules(23));
    }

    /** LAW 0 is MOVED and 1 COMES. */
    private static NineDemands uneven(String moved, String comes) {
        NineDemands x = new NineDemands();
        Edge.law(x, 1, 1, moved);
        Edge.law(x, 4, 1, comes);
        return x;
    }

    private static boolean fits(int[] rule, List<int[]> notSo) {
        for (int[] no : notSo) {
            if (rule[no[0]] == no[2] && rule[no[1]] == no[3]) {
                return false;
            }
        }
        return true;
    }

    /** Writes out all RULES and holds what is said of them against that. */
    private static void dueByAllRules(String moved, String comes, String told) {
        List<int[]> notSo = Edge.notSo(() -> uneven(moved, comes));
        int rules = 0;
        int near = 99;
        int[] may = new int[12];
        int[] first = null;
        for (int n = 0; n < 531441; n++) {
            int[] rule = new int[12];
            int off = 0;
            for (int h = 11, rest = n; h >= 0; h--, rest /= 3) {
                rule[h] = 1 + rest % 3;
                off += rule[h] == told.charAt(h) - '0' ? 0 : 1;
            }
            if (fits(rule, notSo)) {
                rules++;
                near = Math.min(near, off);
                first = first == null ? rule : first;
                for (int h = 0; h < 12; h++) {
                    may[h] |= 1 << rule[h];
                }
            }
        }
        NineDemands x = uneven(moved, comes);
        Edge.tellRule(x, told);
        String laws = moved + " and " + comes;
        Edge.due("rules(3) by " + laws, rules, x.rules(3));
        Edge.due("near(3) by " + laws, rules == 0 ? Edge.NONE : near, x.near(3));
        for (int h = 0; h < 12; h++) {
            Edge.due("may(3, " + h + ") by " + laws, may[h], x.may(3, h));
            Edge.due("find(3, " + h + ") by " + laws, rules == 0 ? Edge.NONE : first[h], x.find(3, h));
        }
    }

    @Says(in = "Promise 18", words = "How many RULES FIT by a SET")
    static void p18AllRulesWrittenOut() {
        dueByAllRules("(c*3+d*5+p+q*2+i*3)%7", "(c+d*2+p+q+w)%5", "123321123321");
        dueByAllRules("(c*5+d+p*3+q*2+i)%4|s=3", "(c*2+d*3+p*2+q+w)%4", "312222131213");
        dueByAllRules("(c+d*3+p*5+q*3+r)%5", "(c*7+d*5+p*3+q*2+w)%6", "222211113333");
        dueByAllRules("(c*c+d*2+a+i)%4", "(c*3+d+a+w*2)%3", "333333333333");
        dueByAllRules("(c*2+d+a*3+w)%6", "!(c=d)|w&p", "111111111111");
        dueByAllRules("c<d+2-p*q|s=3|i=0", "c=d|w=p", "131313131313");
    }

    @Says(in = "Promise 18", words = "BEYOND")
    static void p18NoSuchSet() {
        NineDemands x = Edge.five();
        for (int set : NO_SETS) {
            Edge.due("rules(" + set + ")", Edge.BEYOND, x.rules(set));
        }
        Edge.due("rules(0) without LAWS", 531441, new NineDemands().rules(0));
    }

    // ---- 19: may

    @Says(in = "Promise 19", words = "as bits (bit c for CHOICE c")
    static void p19Bits() {
        NineDemands x = Edge.withTexts("c=1", "c=2", "c=3", "c<3", "c>1", "!(c=2)");
        int[] bits = {2, 4, 8, 6, 12, 10};
        for (int h = 0; h < 12; h++) {
            for (int n = 0; n < 6; n++) {
                Edge.due("may(" + (1 << n) + ", " + h + ")", bits[n], x.may(1 << n, h));
            }
            Edge.due("may(0, " + h + ")", 14, x.may(0, h));
        }
    }

    @Says(in = "Promise 19", words = "Which CHOICES RULES that FIT by a SET have in a HALL")
    static void p19OnlyOfWholeRules() {
        NineDemands x = new NineDemands();
        x.law(2, 0);
        x.law(3, 0);
        Edge.law(x, 4, 0, "c=d");
        for (int h = 0; h < 12; h++) {
            Edge.due("ALIKE and TURNED: may(3, " + h + ")", h == 1 || h == 2 ? 8 : 14, x.may(3, h));
        }
        for (int h = 0; h < 12; h++) {
            boolean alone = h != 0 && h != 3 && h != 4 && h != 11;
            Edge.due("and as if nobody came: may(7, " + h + ")", 8, x.may(7, h) & (alone ? 15 : 8));
        }
    }

    @Says(in = "Promise 19", words = "0: it is OUT")
    static void p19Out() {
        NineDemands x = Edge.withTexts("s=2|a|c>3");
        for (int h = 0; h < 12; h++) {
            Edge.due("may(1, " + h + "), though HALL 11 alone is the cause", 0, x.may(1, h));
        }
        Edge.dueTold(x, 0, 0, 0, 0, 0);
    }

    @Says(in = "Promise 19", words = "BEYOND")
    static void p19NoSuchSetOrHall() {
        NineDemands x = Edge.five();
        for (int set : NO_SETS) {
            Edge.due("may(" + set + ", 0)", Edge.BEYOND, x.may(set, 0));
        }
        for (int hall : NO_HALLS) {
            Edge.due("may(0, " + hall + ")", Edge.BEYOND, x.may(0, hall));
            Edge.due("may(28, " + hall + "), OUT", Edge.BEYOND, x.may(28, hall));
        }
    }

    // ---- 20: near

    @Says(in = "Promise 20", words = "In how many HALLS THE TOLD RULE must choose otherwise at least, so that it FITS by a SET")
    static void p20NoneToAll() {
        NineDemands x = Edge.withTexts("c<3", "s=3|c<3", "1");
        Edge.due("all 12", 12, x.near(1));
        Edge.due("the HALLS of two", 4, x.near(2));
        Edge.due("none", 0, x.near(4));
        Edge.due("none by no LAWS", 0, x.near(0));
        for (int h = 0; h < 12; h++) {
            x.choose(h, 1 + h % 2);
            Edge.due("one less", 11 - h, x.near(1));
        }
        Edge.dueRule("behind near()", "121212121212", x);
    }

    @Says(in = "Promise 20", words = "must choose otherwise at least")
    static void p20TheNearestNotTheFirst() {
        NineDemands x = new NineDemands();
        x.law(2, 0);
        Edge.law(x, 1, 0, "c=d");
        Edge.tellRule(x, "333133333331");
        Edge.due("ALIKE is kept", 0, x.near(1));
        Edge.due("two of 12", 2, x.near(2));
        Edge.tellRule(x, "312322222313");
        Edge.due("two of the square, three of the cube", 5, x.near(2));
        Edge.due("1 or 2; 5, 6, 8 as they are; one of 7, 9, 10", 3, x.near(1));
    }

    @Says(in = "Promise 20", words = "BEYOND")
    static void p20NoSuchSet() {
        NineDemands x = Edge.five();
        for (int set : NO_SETS) {
            Edge.due("near(" + set + ")", Edge.BEYOND, x.near(set));
        }
    }

    @Says(in = "Promise 20", words = "NONE: it is OUT")
    static void p20Out() {
        NineDemands x = Edge.five();
        Edge.due("near(28)", Edge.NONE, x.near(28));
        Edge.due("near(31)", Edge.NONE, x.near(31));
        Edge.due("near(22), without TURNED", 12, x.near(22));
    }

    // ---- 21: word

    @Says(in = "Promise 21", words = "The least FORM that FITS by a SET")
    static void p21EachForm() {
        String[] forms = {
            "111111111111", "222222222222", "333333333333", "121212121212", "112211221122", "133211121222",
            "111211121222", "122211121222", "121211121222", "133213333332", "122212222222", "111211111112",
        };
        for (int form = 0; form < 12; form++) {
            NineDemands x = new NineDemands();
            for (int two = 0; two < 6; two++) {
                String here = "r=" + (two + 4) / 2 % 3 + "&q=" + two % 2;
                char ifA = forms[form].charAt(2 * two);
                char ifB = forms[form].charAt(2 * two + 1);
                Edge.law(x, 0, 0, "!(" + here + ")|c=" + ifA + "*(1-p)+" + ifB + "*p");
            }
            Edge.due("the LAWS leave one RULE", 1, x.rules(63));
            Edge.due("it is FORM", form, x.word(63));
        }
    }

    @Says(in = "Promise 21", words = "The least FORM that FITS by a SET")
    static void p21TheLeast() {
        NineDemands x = Edge.five();
        Edge.due("by none", 0, x.word(0));
        Edge.due("all want A: A", 0, x.word(1));
        Edge.due("all want B: B", 1, x.word(2));
        Edge.due("TURNED", 2, x.word(8));
        Edge.due("both wants", 3, x.word(3));
        Edge.due("and ALIKE", 5, x.word(7));
        Edge.due("ALIKE, SINGLE and both wants", 6, x.word(23));
        Edge.dueRule("behind word()", "333333333333", x);
    }

    @Says(in = "Promise 21", words = "BEYOND")
    static void p21NoSuchSet() {
        NineDemands x = Edge.five();
        for (int set : NO_SETS) {
            Edge.due("word(" + set + ")", Edge.BEYOND, x.word(set));
        }
    }

    @Says(in = "Promise 21", words = "NONE: there is none such")
    static void p21NoForm() {
        NineDemands x = Edge.withTexts("c=1+(p=0&q=0)", "0");
        Edge.due("RULES that FIT", 1, x.rules(1));
        Edge.due("but no FORM", Edge.NONE, x.word(1));
        Edge.due("OUT", Edge.NONE, x.word(2));
    }

    public static void main(String[] args) {
        Edge.run(EdgeRulesTests.class);
    }
}
