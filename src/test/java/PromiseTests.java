/** Each promise of the document by its number: ordinary calls, the edges it names, wrong ones. */
public final class PromiseTests {
    private static final int LOW = -1000000;
    private static final int BEYOND = LOW - 1;
    private static final int NONE = LOW - 2;
    private static final int STATE = LOW - 3;
    private static final int FULL = LOW - 4;
    private static final int KIND = LOW - 5;
    private static final int LEAST = Integer.MIN_VALUE;
    private static final int GREATEST = Integer.MAX_VALUE;

    private static int wrong = 0;
    private static int promise = 0;

    private static void due(String what, long want, long got) {
        if (got != want) {
            wrong++;
            System.out.println("promise " + promise + ": " + what + " answered " + got + ", due is " + want);
        }
    }

    private static void feed(NineDemands x, String text) {
        for (int at = 0; at < text.length(); at += 8) {
            int n = Math.min(8, text.length() - at);
            long word = 0;
            for (int i = 0; i < n; i++) {
                word |= (long) text.charAt(at + i) << 8 * i;
            }
            due("feed of " + text, at + n, x.feed(word, n));
        }
    }

    private static int law(NineDemands x, int kind, int price, String text) {
        feed(x, text);
        return x.law(kind, price);
    }

    /** LAWS 0 all want A: A; 1 all want B: B; 2 ALIKE; 3 TURNED; 4 SINGLE: together OUT, as 2, 3, 4 are. */
    private static NineDemands five() {
        NineDemands x = new NineDemands();
        law(x, 0, 5, "b|c=1");
        law(x, 0, 7, "a|c=2");
        x.law(2, 3);
        x.law(3, 2);
        x.law(5, 9);
        return x;
    }

    private static void p1to3() {
        promise = 1;
        NineDemands x = new NineDemands();
        due("LAWS", 0, x.count(0));
        for (int h = 0; h < 12; h++) {
            due("chosen", 3, x.chosen(h));
        }
        for (int k = 1; k <= 5; k++) {
            due("told", 0, x.told(k));
        }
        for (int what = 0; what <= 5; what++) {
            due("count " + what, what == 2 ? 12 : 0, x.count(what));
        }
        due("no image", NONE, x.restore());
        due("no sheet", NONE, x.block(0));
        promise = 2;
        int[] wantB = {0, 1, 1, 2, 0, 1, 1, 2, 1, 2, 2, 3};
        for (int h = 0; h < 12; h++) {
            int people = h < 4 ? 2 : 3;
            due("people", people, x.hall(h, 0));
            due("want A", people - wantB[h], x.hall(h, 1));
            due("want B", wantB[h], x.hall(h, 2));
            due("person 0", h % 2, x.hall(h, 10));
            due("person 1", h / 2 % 2, x.hall(h, 11));
            due("person 2", h < 4 ? 2 : h < 8 ? 0 : 1, x.hall(h, 12));
        }
        for (int what : new int[] {-1, 3, 9, 13, LEAST, GREATEST}) {
            due("hall(0, " + what + ")", BEYOND, x.hall(0, what));
        }
        for (int h : new int[] {-1, 12, LEAST, GREATEST}) {
            due("hall(" + h + ", 0)", BEYOND, x.hall(h, 0));
        }
        promise = 3;
        due("moved(0, 0)", 1, x.moved(0, 0));
        due("moved(0, 1)", 2, x.moved(0, 1));
        due("moved(3, 1)", 1, x.moved(3, 1));
        due("moved(4, 2)", 8, x.moved(4, 2));
        due("moved(11, 0)", 10, x.moved(11, 0));
        due("moved(3, 2)", NONE, x.moved(3, 2));
        due("moved(3, 3)", BEYOND, x.moved(3, 3));
        due("moved(3, -1)", BEYOND, x.moved(3, -1));
        due("moved(12, 2)", BEYOND, x.moved(12, 2));
        due("moved(-1, 0)", BEYOND, x.moved(-1, 0));
    }

    private static void p4to6() {
        promise = 4;
        NineDemands x = new NineDemands();
        due("choose", 3, x.choose(11, 2));
        due("choose again", 2, x.choose(11, 1));
        for (int c : new int[] {0, 4, -1, LEAST, GREATEST}) {
            due("no CHOICE", BEYOND, x.choose(11, c));
        }
        due("choose(12)", BEYOND, x.choose(12, 1));
        due("choose(-1)", BEYOND, x.choose(-1, 1));
        promise = 5;
        due("chosen", 1, x.chosen(11));
        due("chosen(12)", BEYOND, x.chosen(12));
        due("chosen(-1)", BEYOND, x.chosen(-1));
        promise = 6;
        due("block(-1)", BEYOND, x.block(-1));
        due("block(4)", BEYOND, x.block(4));
        due("missing", NONE, x.block(2));
        x.sheet(2, 16, 0);
        due("an empty one", 0, x.block(2));
        x.sheet(2, 16, 14);
        for (int i = 0; i < 12; i++) {
            x.put(2, i, 1 + i % 3);
        }
        due("12 at most, what is behind isn't looked at", 12, x.block(2));
        for (int h = 0; h < 12; h++) {
            due("blocked", 1 + h % 3, x.chosen(h));
        }
        x.put(2, 0, 3);
        x.put(2, 11, 4);
        due("no CHOICE", KIND, x.block(2));
        due("nothing changed", 1, x.chosen(0));
        x.put(2, 11, -1);
        due("no CHOICE", KIND, x.block(2));
        x.sheet(1, 8, 2);
        x.put(1, 0, 258);
        x.put(1, 1, 3);
        due("two", 2, x.block(1));
        due("lowest bits", 2, x.chosen(0));
        due("third stays", 3, x.chosen(2));
    }

    private static void p7() {
        promise = 7;
        String[] forms = {
            "111111111111", "222222222222", "333333333333", "121212121212", "112211221122", "133211121222",
            "111211121222", "122211121222", "121211121222", "133213333332", "122212222222", "111211111112",
        };
        for (int f = 0; f < 12; f++) {
            NineDemands x = new NineDemands();
            int changed = 0;
            for (int h = 0; h < 12; h++) {
                changed += forms[f].charAt(h) == '3' ? 0 : 1;
            }
            due("form(" + f + ")", changed, x.form(f));
            for (int h = 0; h < 12; h++) {
                due("form " + f + " in " + h, forms[f].charAt(h) - '0', x.chosen(h));
            }
            due("again", 0, x.form(f));
            due("the word of it", f, onlyForm(x, forms[f]));
        }
        due("form(12)", BEYOND, new NineDemands().form(12));
        due("form(-1)", BEYOND, new NineDemands().form(-1));
    }

    /** A LAW for each two HALLS in which only PERSON 0 wants unlike THINGS. */
    private static int onlyForm(NineDemands x, String choices) {
        for (int two = 0; two < 6; two++) {
            String here = "r=" + (two + 4) / 2 % 3 + "&q=" + two % 2;
            char ifA = choices.charAt(2 * two);
            char ifB = choices.charAt(2 * two + 1);
            law(x, 0, 0, "!(" + here + ")|c=" + ifA + "*(1-p)+" + ifB + "*p");
        }
        due("LAWS that say the form", 1, x.rules(63));
        return x.word(63);
    }

    private static void p8() {
        promise = 8;
        NineDemands x = new NineDemands();
        due("n 0", BEYOND, x.feed(99L, 0));
        due("n 9", BEYOND, x.feed(99L, 9));
        due("n -1", BEYOND, x.feed(99L, LEAST));
        for (int n = 1; n <= 6; n++) {
            due("eight more", 8 * n, x.feed(0x2b2b2b2b2b2b2b2bL, 8));
        }
        due("51", FULL, x.feed(0L, 3));
        due("48 stay", 48, x.count(3));
        due("50", 50, x.feed(-1L, 2));
        due("full", FULL, x.feed(0L, 1));
        due("BEYOND is asked first", BEYOND, x.feed(0L, 9));
        x = new NineDemands();
        due("only the lowest bytes", 1, x.feed(0x7f7f7f63L, 1));
        due("it is c", 0, x.law(0, 0));
        x = new NineDemands();
        due("the lowest first", 3, x.feed(0x313d63L, 3));
        due("it is c=1", 0, x.law(0, 0));
        due("c=1", 1, x.so(0, 0, 1, 0));
        due("c=1", 0, x.so(0, 0, 2, 0));
    }

    private static void p9() {
        promise = 9;
        NineDemands x = new NineDemands();
        due("KIND 6", BEYOND, x.law(6, 0));
        due("KIND -1", BEYOND, x.law(-1, 0));
        due("PRICE 100", BEYOND, x.law(5, 100));
        due("PRICE -1", BEYOND, x.law(5, -1));
        feed(x, "c=1");
        due("one without TEXT", 0, x.law(5, 99));
        due("THE TAPE stays", 3, x.count(3));
        due("BEYOND", BEYOND, x.law(0, 100));
        due("THE TAPE stays", 3, x.count(3));
        due("one with TEXT", 1, x.law(0, 0));
        due("THE TAPE is empty", 0, x.count(3));
        for (int n = 2; n < 8; n++) {
            due("more", n, x.law(2, 0));
        }
        feed(x, "c=");
        due("FULL", FULL, x.law(0, 0));
        due("THE TAPE stays", 2, x.count(3));
        due("FULL without TEXT", FULL, x.law(5, 0));
        due("BEYOND is asked first", BEYOND, x.law(6, 0));
        faults();
    }

    private static void faults() {
        fault(0, "", 0);
        fault(0, "c=", 2);
        fault(0, "c==", 2);
        fault(0, "(c", 2);
        fault(0, "()", 1);
        fault(0, "c)", 1);
        fault(0, " c", 0);
        fault(0, "c =1", 1);
        fault(0, "12345", 4);
        fault(0, "1c", 1);
        fault(0, "c1", 1);
        fault(0, "cc", 1);
        fault(0, "-c", 0);
        fault(0, "c!", 1);
        fault(0, "c=1=1", 3);
        fault(0, "c<1+1>2", 5);
        fault(0, "c&", 2);
        fault(0, "c|&", 2);
        fault(0, "!", 1);
        fault(0, "!!!!!!c", 5);
        fault(0, "((((((c", 5);
        fault(0, "!(!(!(c", 5);
        fault(0, "(((((c)))))!", 11);
        fault(0, "(((((c", 6);
        fault(0, "x", 0);
        fault(0, "d", 0);
        fault(0, "w", 0);
        fault(0, "i", 0);
        fault(0, "C", 0);
        fault(4, "c+d+w+i", 6);
        fault(1, "c+d+w+i+z", 8);
        fault(1, "c\u0000", 1);
        fault(1, "c\u00e9", 1);
        sound(0, "0000|9999");
        sound(0, "!!!!!c+!!!!!c");
        sound(0, "(((((c)))))+(((((c)))))");
        sound(0, "(c=1)=(c=2)");
        sound(0, "c=1&c=2|c=3&a<b");
        sound(0, "a+b+c+s+p+q+r");
        sound(4, "a+b+c+s+p+q+r+d+w");
        sound(1, "a+b+c+s+p+q+r+d+w+i");
    }

    private static void fault(int kind, String text, int at) {
        NineDemands x = new NineDemands();
        due("FAULT of " + text, -10 - at, law(x, kind, 0, text));
        due("THE TAPE behind " + text, 0, x.count(3));
        due("LAWS behind " + text, 0, x.count(0));
        for (int k = 1; k <= 5; k++) {
            due("no ERROR", 0, x.told(k));
        }
    }

    private static void sound(int kind, String text) {
        due("LAW of " + text, 0, law(new NineDemands(), kind, 0, text));
    }

    /** What a TEXT is worth in HALL 5 of three (PERSON 0 wants B), CHOICE 2: asked as worth = v. */
    private static void worth(String text, String v) {
        NineDemands x = new NineDemands();
        due("LAW of " + text, 0, law(x, 0, 0, "(" + text + ")=" + v));
        due(text + " is " + v, 1, x.so(0, 5, 2, 0));
    }

    private static void texts() {
        promise = 9;
        worth("7-2-1", "4");
        worth("1+2*3", "7");
        worth("(1+2)*3", "9");
        worth("100/7/2", "7");
        worth("100%7*10", "20");
        worth("(0-7)/2", "0-3");
        worth("(0-7)%2", "0-1");
        worth("5/0", "0");
        worth("5%0", "0");
        worth("!5", "0");
        worth("!0+!0", "2");
        worth("!(1=2)", "1");
        worth("2&3", "1");
        worth("2|0", "1");
        worth("0|0", "0");
        worth("1|0&0", "1");
        worth("2<3", "1");
        worth("3<3", "0");
        worth("3>2", "1");
        worth("2+1=3", "1");
        worth("9999*9999*22<0", "1");
        worth("9999*9999*22/9999/99", "0-2116");
        worth("9999*9999*9999*0", "0");
        worth("0001+10", "11");
        worth("a", "2");
        worth("b", "1");
        worth("c", "2");
        worth("s", "3");
        worth("p", "1");
        worth("q", "0");
        worth("r", "0");
    }

    private static void p10and11() {
        promise = 10;
        NineDemands x = five();
        due("was", 7, x.price(1, 99));
        due("is", 99, x.price(1, 0));
        due("PRICE 100", BEYOND, x.price(1, 100));
        due("PRICE -1", BEYOND, x.price(1, -1));
        due("LAW 5", BEYOND, x.price(5, 1));
        due("LAW -1", BEYOND, x.price(-1, 1));
        due("together", 19, x.count(1));
        promise = 11;
        x = new NineDemands();
        String[] texts = {"c", "c", "", "", "c", ""};
        int[] cases = {12, 32, 14, 12, 8, 12};
        for (int kind = 0; kind < 6; kind++) {
            law(x, kind, 0, texts[kind]);
        }
        String[] under = {"0", "01", "012", "013", "014", "05"};
        for (int n = 0; n < 6; n++) {
            for (int kind = 0; kind < 6; kind++) {
                boolean is = under[n].indexOf('0' + kind) >= 0;
                due("as(" + n + ", " + kind + ")", is ? cases[n] : KIND, x.as(n, kind));
            }
        }
        due("KIND 6", BEYOND, x.as(0, 6));
        due("KIND -1", BEYOND, x.as(0, -1));
        due("LAW 6", BEYOND, x.as(6, 0));
        due("LAW -1", BEYOND, x.as(-1, 0));
    }

    private static void p12() {
        promise = 12;
        NineDemands x = new NineDemands();
        law(x, 0, 0, "c");
        law(x, 1, 0, "c");
        x.law(2, 0);
        x.law(3, 0);
        law(x, 4, 0, "c");
        x.law(5, 0);
        pairs(x, 1, "0-1 0-2 1-0 1-3 2-3 2-0 3-2 3-1 4-5 4-6 4-8 5-4 5-7 5-9 6-7 6-4 6-10 7-6 7-5 7-11 "
            + "8-9 8-10 8-4 9-8 9-11 9-5 10-11 10-8 10-6 11-10 11-9 11-7");
        pairs(x, 2, "1-2 2-1 5-6 5-8 6-5 6-8 7-10 7-9 8-5 8-6 9-10 9-7 10-9 10-7");
        pairs(x, 3, "0-3 1-2 2-1 3-0 4-11 5-10 6-9 7-8 8-7 9-6 10-5 11-4");
        pairs(x, 4, "0-4 0-8 1-5 1-9 2-6 2-10 3-7 3-11");
        for (int h = 0; h < 12; h++) {
            due("LAW's h", h, x.part(0, h, 0));
            due("LAW's k", NONE, x.part(0, h, 1));
            due("SINGLE's h", h, x.part(5, h, 0));
            due("SINGLE's k", NONE, x.part(5, h, 1));
        }
        due("no such CASE", BEYOND, x.part(0, 12, 1));
        due("CASE -1", BEYOND, x.part(0, -1, 0));
        due("LAW 6", BEYOND, x.part(6, 0, 0));
        due("what 2", BEYOND, x.part(0, 0, 2));
        due("what -1", BEYOND, x.part(0, 0, -1));
    }

    private static void pairs(NineDemands x, int law, String all) {
        String[] pairs = all.split(" ");
        for (int i = 0; i < pairs.length; i++) {
            String[] two = pairs[i].split("-");
            due("h of CASE " + i + " of LAW " + law, Integer.parseInt(two[0]), x.part(law, i, 0));
            due("k of CASE " + i + " of LAW " + law, Integer.parseInt(two[1]), x.part(law, i, 1));
        }
        due("no more CASES", BEYOND, x.part(law, pairs.length, 0));
    }

    private static void p13() {
        promise = 13;
        NineDemands x = five();
        for (int c = 1; c <= 3; c++) {
            for (int d = 1; d <= 3; d++) {
                due("ALIKE", c == d ? 1 : 0, x.so(2, 13, c, d));
                due("TURNED", c == 3 && d == 3 || c + d == 3 ? 1 : 0, x.so(3, 11, c, d));
                due("SINGLE", c == 3 ? 0 : 1, x.so(4, 11, c, d));
            }
        }
        due("d isn't looked at", 1, x.so(0, 0, 1, LEAST));
        due("d isn't looked at", 0, x.so(4, 0, 3, 9));
        due("d 0", BEYOND, x.so(2, 0, 1, 0));
        due("d 4", BEYOND, x.so(2, 0, 1, 4));
        due("c 0", BEYOND, x.so(0, 0, 0, 1));
        due("c 4", BEYOND, x.so(0, 0, 4, 1));
        due("CASE 12", BEYOND, x.so(0, 12, 1, 1));
        due("CASE -1", BEYOND, x.so(0, -1, 1, 1));
        due("LAW 5", BEYOND, x.so(5, 0, 1, 1));
        x = new NineDemands();
        law(x, 1, 0, "d=2&w=0&i=2&p=1&q=0&r=0&a=2&b=1&s=3&c=3");
        due("NAMES in a CASE of MOVED", 1, x.so(0, 13, 3, 2));
        due("another d", 0, x.so(0, 13, 3, 1));
        due("another CASE", 0, x.so(0, 12, 3, 2));
        law(x, 4, 0, "d=1&w=1&p=1&q=0&r=2&a=1&b=1&s=2&c=3");
        due("NAMES in a CASE of COMES", 1, x.so(1, 3, 3, 1));
        due("another w", 0, x.so(1, 2, 3, 1));
    }

    private static void p14and15() {
        promise = 14;
        NineDemands x = five();
        due("all want A, both chosen", 0, x.breach(0));
        due("all want B, both chosen", 3, x.breach(1));
        due("ALIKE", NONE, x.breach(2));
        due("TURNED", NONE, x.breach(3));
        due("SINGLE", 0, x.breach(4));
        x.form(3);
        due("PERSON 0 decides: ALIKE", 0, x.breach(2));
        x.choose(11, 3);
        due("all want B", 11, x.breach(1));
        due("SINGLE", 11, x.breach(4));
        due("TURNED", 4, x.breach(3));
        due("LAW 5", BEYOND, x.breach(5));
        due("LAW -1", BEYOND, x.breach(-1));
        promise = 15;
        due("all want A is kept", 1, x.kept());
        x.choose(11, 2);
        due("kept by PERSON 0's rule", 27, x.kept());
        due("none yet", 0, new NineDemands().kept());
    }

    private static void p16to21() {
        promise = 16;
        NineDemands x = five();
        int[] first = {1, 1, 1, 2, 1, 1, 1, 1, 1, 1, 1, 2};
        for (int h = 0; h < 12; h++) {
            due("find(7, " + h + ")", first[h], x.find(7, h));
        }
        due("find(28)", NONE, x.find(28, 0));
        due("HALL 12 is asked first", BEYOND, x.find(28, 12));
        due("HALL -1", BEYOND, x.find(0, -1));
        due("SET 32", BEYOND, x.find(32, 0));
        due("SET -1", BEYOND, x.find(-1, 0));
        promise = 17;
        due("write(28)", NONE, x.write(28));
        due("write(32)", BEYOND, x.write(32));
        due("nothing changed", 3, x.chosen(0));
        due("write(7)", 0, x.write(7));
        for (int h = 0; h < 12; h++) {
            due("written", first[h], x.chosen(h));
        }
        due("write(12) needs both in 1 and 2", 2, x.write(12));
        due("it does", 3, x.chosen(2));
        promise = 18;
        due("all", 531441, x.rules(0));
        due("not both", 4096, x.rules(16));
        due("ALIKE", 3 * 3 * 3 * 3 * 3 * 3 * 3, x.rules(4));
        due("TURNED", 729, x.rules(8));
        due("OUT", 0, x.rules(31));
        due("SET 32", BEYOND, x.rules(32));
        due("SET -1", BEYOND, x.rules(-1));
        colours();
        promise = 19;
        due("any", 14, x.may(4, 5));
        due("A alone", 2, x.may(1, 4));
        due("no both", 6, x.may(16, 4));
        due("both alone", 8, x.may(12, 1));
        due("OUT", 0, x.may(28, 4));
        due("SET 32", BEYOND, x.may(32, 4));
        due("HALL 12", BEYOND, x.may(28, 12));
        promise = 20;
        x.form(2);
        due("SINGLE is broken everywhere", 12, x.near(16));
        due("two of 12", 4, x.near(3));
        x.form(3);
        due("TURNED is kept", 0, x.near(8));
        due("ALIKE: 1 or 2, one of 5, 6, 8, one of 7, 9, 10", 3, x.near(4));
        due("OUT", NONE, x.near(28));
        due("SET 32", BEYOND, x.near(32));
        promise = 21;
        due("always A", 0, x.word(0));
        due("ALIKE and B where all want it", 1, x.word(6));
        due("TURNED", 2, x.word(8));
        due("ALIKE and all want", 5, x.word(7));
        due("SINGLE, TURNED", 3, x.word(24));
        due("OUT", NONE, x.word(31));
        due("SET 32", BEYOND, x.word(32));
        due("not OUT but no FORM", 0, law(x = new NineDemands(), 0, 0, "c=1+(r=1&p=0)"));
        due("not OUT but no FORM", NONE, x.word(1));
    }

    /** Where no two HALLS that are moved to one another choose alike, RULES are known as colourings. */
    private static void colours() {
        NineDemands x = new NineDemands();
        law(x, 1, 0, "!(c=d)");
        due("3 colours for a square and a cube", 18 * 114, x.rules(1));
        due("half of the halls may stay", 6, x.near(1));
        law(x, 1, 0, "s=3|!(c=d)");
        due("for the square", 18 * 6561, x.rules(2));
        due("half of the square may stay", 2, x.near(2));
        law(x, 1, 0, "c=d");
        due("all alike", 9, x.rules(4));
        due("can't be both", 0, x.rules(5));
        law(x, 4, 0, "c=d");
        due("as if nobody came", 81, x.rules(8));
        law(x, 4, 0, "!(c=d)");
        due("never as if nobody came", 12 * 12 * 12 * 12, x.rules(16));
        due("all alike, and others who come", 6, x.rules(20));
        due("the square and what comes", 18 * 16 * 16, x.rules(18));
        x.law(5, 0);
        due("2 colours", 4, x.rules(33));
        due("the first of them", 2, x.find(33, 1));
        due("the first of them", 1, x.find(33, 3));
        due("the first of them", 1, x.find(33, 9));
        due("either", 6, x.may(33, 9));
        due("of the square and what comes", 2 * 16 * 16 / 16 / 16, x.rules(50));
        x.law(3, 0);
        due("TURNED can't be with 2 colours of a square", 0, x.rules(97));
    }

    private static void p22() {
        promise = 22;
        NineDemands x = new NineDemands();
        law(x, 0, 0, "s=3|c=1+p");
        x.law(2, 0);
        int[] steps = {2, 3, 4 + 1, 4 + 3, 8 + 2, 8 + 3, 12 + 1, 12 + 3, 48 + 4 + 2};
        due("how many", steps.length, x.show(3, -1));
        due("a PROOF", 1, x.show(3, -2));
        for (int i = 0; i < steps.length; i++) {
            due("STEP " + i, steps[i], x.show(3, i));
        }
        due("no more", NONE, x.show(3, steps.length));
        due("no more", NONE, x.show(3, GREATEST));
        due("without ALIKE", 8, x.show(1, -1));
        due("no PROOF", 0, x.show(1, -2));
        due("nothing to strike", 0, x.show(2, -1));
        due("nothing to strike", NONE, x.show(2, 0));
        due("what -3", BEYOND, x.show(3, -3));
        due("SET 4", BEYOND, x.show(4, 0));
        due("SET -1", BEYOND, x.show(-1, -1));
        x = new NineDemands();
        x.law(2, 0);
        law(x, 0, 0, "c=1|p=0|q|r<2");
        due("behind the LAWS' first round ALIKE goes on", 48 + 4 + 2, x.show(3, 0));
        due("second STEP", 48 + 4 + 3, x.show(3, 1));
        due("k is struck from h's", 8 + 2, x.show(3, 2));
        due("k is struck from h's", 8 + 3, x.show(3, 3));
        due("no more", 4, x.show(3, -1));
        x = new NineDemands();
        law(x, 0, 0, "0");
        due("it ends as soon as a HALL is empty", 3, x.show(1, -1));
        due("least first", 1, x.show(1, 0));
        due("a PROOF", 1, x.show(1, -2));
        due("OUT without a PROOF", 0, five().show(31, -2));
    }

    private static void steps(NineDemands x, int... steps) {
        x.sheet(0, 16, steps.length);
        for (int i = 0; i < steps.length; i++) {
            x.put(0, i, steps[i]);
        }
    }

    private static void p23() {
        promise = 23;
        NineDemands x = new NineDemands();
        law(x, 0, 0, "s=3|c=1+p");
        x.law(2, 0);
        steps(x, 4 + 3, 4 + 1, 8 + 3, 8 + 2, 48 + 4 + 2);
        due("a PROOF in another order", 0, x.check(3, 0));
        due("LAW 1 isn't of the SET", 5, x.check(1, 0));
        due("LAW 0 isn't of the SET", 1, x.check(2, 0));
        steps(x, 4 + 3, 4 + 1, 8 + 3, 8 + 2);
        due("all follow, none empty", 5, x.check(3, 0));
        steps(x, 4 + 3, 4 + 1, 8 + 3, 8 + 2, 48 + 8 + 1, 3, 2);
        due("goes on behind the empty HALL", 0, x.check(3, 0));
        steps(x, 4 + 3, 4 + 3);
        due("it isn't left", 2, x.check(3, 0));
        steps(x, 4 + 3, 4 + 1, 48 + 8 + 2);
        due("d 2 still goes with c 2", 3, x.check(3, 0));
        steps(x, 4 + 3, 4 + 1, 48 + 8 + 1, 48 + 8 + 3);
        due("as h and as k", 5, x.check(3, 0));
        steps(x, 4);
        due("no CHOICE 0", 1, x.check(3, 0));
        steps(x, -1);
        due("below 0", 1, x.check(3, 0));
        steps(x, 16 * 48 + 1);
        due("no such LAW", 1, x.check(3, 0));
        steps(x, 16 + 1);
        due("this LAW is so there", 1, x.check(3, 0));
        x.sheet(0, 32, 0);
        due("no numbers", 1, x.check(3, 0));
        due("missing", NONE, x.check(3, 1));
        due("SET 4", BEYOND, x.check(4, 1));
        due("SHEET 4", BEYOND, x.check(3, 4));
        due("SHEET -1", BEYOND, x.check(3, -1));
    }

    private static void p24to26() {
        promise = 24;
        NineDemands x = five();
        due("ALIKE, TURNED, SINGLE", 28, x.small(31));
        due("ALIKE, TURNED, SINGLE", 28, x.small(28));
        due("not OUT", STATE, x.small(24));
        due("SET 32", BEYOND, x.small(32));
        due("two ways to be OUT", 5, law(x, 0, 1, "c=2"));
        due("fewest: 0 with 5", 33, x.small(63));
        due("one alone", 6, law(x, 0, 1, "c>3"));
        due("one alone", 64, x.small(127));
        promise = 25;
        due("HALL 0", 1, x.few(127));
        due("all want A", 1, x.few(33));
        due("HALLS 1 and 2", 6, x.few(28));
        due("not OUT", STATE, x.few(24));
        due("SET 128", BEYOND, x.few(128));
        NineDemands y = new NineDemands();
        law(y, 1, 0, "s=2|!(c=d)");
        due("whoever moves decides", STATE, y.few(1));
        law(y, 4, 0, "c=d");
        due("but not whoever comes", 1 | 1 << 4 | 1 << 8, y.few(3));
        promise = 26;
        x = five();
        due("not OUT", 0, x.give(24, 0));
        due("not OUT", 0, x.give(24, 1));
        due("TURNED is cheapest", 8, x.give(31, 0));
        due("PRICE", 2, x.give(31, 1));
        x.price(2, 2);
        x.price(4, 2);
        due("the least as bits", 4, x.give(31, 0));
        x.price(0, 0);
        due("not one more, though it costs nothing", 4, x.give(31, 0));
        due("what 2", BEYOND, x.give(31, 2));
        due("what -1", BEYOND, x.give(31, -1));
        due("SET 32", BEYOND, x.give(32, 0));
        x = new NineDemands();
        law(x, 0, 4, "c=1");
        law(x, 0, 2, "c=2|c=3");
        law(x, 0, 2, "c=2");
        due("as dear, but fewer", 1, x.give(7, 0));
        due("as dear", 4, x.give(7, 1));
        x.price(0, 5);
        due("cheaper, though more", 6, x.give(7, 0));
    }

    private static void p27to29() {
        promise = 27;
        NineDemands x = new NineDemands();
        law(x, 0, 1, "c=1");
        law(x, 0, 1, "c<3");
        x.law(2, 1);
        law(x, 0, 1, "c=2");
        due("from c=1 c<3", 1, x.follows(1, 1));
        due("not back", 0, x.follows(2, 0));
        due("ALIKE from c=1", 1, x.follows(1, 2));
        due("a LAW of the SET", 1, x.follows(2, 1));
        due("from nothing", 0, x.follows(0, 2));
        due("from a SET that is OUT", 1, x.follows(9, 2));
        due("LAW 4", BEYOND, x.follows(1, 4));
        due("LAW -1", BEYOND, x.follows(1, -1));
        due("SET 16", BEYOND, x.follows(16, 0));
        promise = 28;
        due("c=1 needs no other", 6, x.spare(7));
        due("none", 0, x.spare(6));
        due("none of none", 0, x.spare(0));
        due("a LAW that follows isn't of the SET", 2, x.spare(3));
        due("the least LAW", 1, five().spare(29));
        due("both follow, as both are OUT without", 6, x.spare(15));
        due("SET 16", BEYOND, x.spare(16));
        promise = 29;
        due("same", 1, x.same(1, 7));
        due("unlike", 0, x.same(1, 6));
        due("unlike, though both are less than all", 0, x.same(2, 4));
        due("same with nothing in common", 1, x.same(9, 9));
        due("as many, but others", 0, x.same(1, 8));
        due("both OUT", 1, x.same(9, 15));
        due("SET 16", BEYOND, x.same(16, 0));
        due("SET -1", BEYOND, x.same(0, -1));
    }

    private static void says(NineDemands x, int law, int act, int number, int want, int... bodies) {
        due("voice(" + law + ", " + act + ")", want, x.voice(law, act, number));
        due("BODIES", bodies.length, x.count(5));
        for (int i = 0; i < bodies.length; i++) {
            due("BODY " + i + " of voice(" + law + ", " + act + ")", bodies[i], x.trace(i));
        }
        due("no more", NONE, x.trace(bodies.length));
    }

    private static void p30and31() {
        promise = 30;
        NineDemands x = new NineDemands();
        x.law(5, 1);
        law(x, 0, 3, "c");
        law(x, 1, 5, "c");
        x.law(2, 7);
        x.law(3, 2);
        law(x, 4, 4, "c");
        says(x, 1, 0, 10, 11, 10);
        says(x, 1, 1, 10, 22, 11, 10);
        says(x, 1, 2, 10, 7, 12);
        says(x, 1, 3, 10, 22 ^ 7, 13, 11, 10, 12);
        says(x, 2, 1, 10, 24 + 5, 20, 11, 10, 12);
        says(x, 2, 3, 10, 29 ^ 5, 13, 20, 11, 10, 12, 12);
        says(x, 3, 0, 10, 12, 30, 10);
        says(x, 3, 1, 10, 24 + 3, 20, 11, 30, 10, 12);
        says(x, 3, 3, 10, 26 + 4 ^ 4, 31, 13, 20, 11, 30, 10, 12, 12);
        says(x, 4, 2, 10, -8, 40, 12);
        says(x, 4, 1, 10, 28 - 8, 20, 11, 10, 40, 12);
        says(x, 5, 1, 10, 22 + 2, 51, 20, 11, 10, 12);
        says(x, 5, 3, 10, 6 - (24 ^ 6), 50, 12, 13, 51, 20, 11, 10, 12, 12);
        says(x, 0, 0, 10, 15, 60, 10);
        says(x, 0, 2, 10, 9 * 4, 61, 12, 60, 10);
        says(x, 0, 3, 10, 30 ^ 36, 13, 11, 60, 10, 61, 12, 60, 10);
        says(x, 1, 1, GREATEST, 0, 11, 10);
        says(x, 1, 2, LEAST, GREATEST - 2, 12);
        int before = x.told(1);
        says(x, 1, 2, BEYOND + 3, BEYOND, 12);
        due("any number is no ERROR", before, x.told(1));
        due("act 4", BEYOND, x.voice(0, 4, 1));
        due("act -1", BEYOND, x.voice(0, -1, 1));
        due("LAW 6", BEYOND, x.voice(6, 0, 1));
        due("LAW -1", BEYOND, x.voice(-1, 0, 1));
        promise = 31;
        due("THE TRACE stays behind an ERROR", 12, x.trace(0));
        due("trace(-1)", NONE, x.trace(-1));
        due("trace(40)", NONE, x.trace(40));
        due("no voice yet", NONE, new NineDemands().trace(0));
    }

    private static void p32to34() {
        promise = 32;
        NineDemands x = new NineDemands();
        due("SHEET 4", BEYOND, x.sheet(4, 8, -1));
        due("SHEET -1", BEYOND, x.sheet(-1, 8, 1));
        due("bits 9", BEYOND, x.sheet(0, 9, -1));
        due("bits 64", BEYOND, x.sheet(0, 64, 1));
        due("n -1", STATE, x.sheet(0, 8, -1));
        due("n least", STATE, x.sheet(0, 32, LEAST));
        due("n 41", BEYOND, x.sheet(0, 8, 41));
        due("still missing", NONE, x.put(0, 0, 0));
        due("n 40", 1, x.sheet(0, 8, 40));
        due("the last", 1, x.put(0, 39, 1));
        due("n doesn't matter", 1, x.sheet(0, 0, -5));
        due("missing", NONE, x.put(0, 0, 0));
        due("n doesn't matter", 1, x.sheet(0, 0, 41));
        due("n 0", 1, x.sheet(0, 16, 0));
        due("no number", BEYOND, x.put(0, 0, 0));
        x.sheet(0, 32, 1);
        x.put(0, 0, 2);
        due("holds 2", 1, x.block(0));
        x.sheet(0, 32, 1);
        due("all 0 again", KIND, x.block(0));
        promise = 33;
        due("SHEET 4", BEYOND, x.put(4, 0, 0));
        due("SHEET -1", BEYOND, x.put(-1, 0, 0));
        due("missing is asked ahead of i", NONE, x.put(3, -1, 0));
        due("i -1", BEYOND, x.put(0, -1, 0));
        due("i 1", BEYOND, x.put(0, 1, 0));
        cut(8, 256 + 2, 2);
        cut(8, -256 + 1, 1);
        cut(16, 256 + 2, KIND);
        cut(16, 65536 + 2, 2);
        cut(32, 65536 + 2, KIND);
        cut(32, 3, 3);
        moves();
    }

    private static void cut(int bits, int v, int want) {
        NineDemands x = new NineDemands();
        x.sheet(3, bits, 1);
        x.put(3, 0, v);
        int answer = x.block(3);
        due(v + " in " + bits + " bits", want, answer == 1 ? x.chosen(0) : answer);
    }

    private static void row(NineDemands x, int sheet, String want) {
        x.form(2);
        x.block(sheet);
        for (int h = 0; h < want.length(); h++) {
            due("number " + h, want.charAt(h) - '0', x.chosen(h));
        }
    }

    private static void moves() {
        promise = 34;
        NineDemands x = new NineDemands();
        x.sheet(0, 8, 6);
        x.sheet(1, 8, 4);
        x.sheet(2, 16, 4);
        String numbers = "123121";
        for (int i = 0; i < 6; i++) {
            x.put(0, i, numbers.charAt(i) - '0');
        }
        due("all", 4, x.move(0, 2, 1, 0, 4));
        row(x, 1, "3121");
        due("within one, up", 4, x.move(0, 0, 0, 1, 4));
        row(x, 0, "112311");
        due("within one, down", 4, x.move(0, 2, 0, 0, 4));
        row(x, 0, "231111");
        due("none", 0, x.move(0, 6, 1, 4, 0));
        due("from behind the end", BEYOND, x.move(0, 7, 1, 0, 0));
        due("to behind the end", BEYOND, x.move(0, 0, 1, 5, 0));
        due("one too many", BEYOND, x.move(0, 3, 1, 0, 4));
        due("one too many there", BEYOND, x.move(0, 0, 1, 1, 4));
        due("n -1", BEYOND, x.move(0, 0, 1, 0, -1));
        due("i -1", BEYOND, x.move(0, -1, 1, 0, 1));
        due("j -1", BEYOND, x.move(0, 0, 1, -1, 1));
        due("n greatest", BEYOND, x.move(0, 1, 1, 1, GREATEST));
        due("i greatest", BEYOND, x.move(0, GREATEST, 1, 1, 1));
        due("j greatest", BEYOND, x.move(0, 0, 1, GREATEST, GREATEST));
        due("n least", BEYOND, x.move(0, 1, 1, 1, LEAST));
        due("unlike bits, ahead of n", KIND, x.move(0, 0, 2, 0, -1));
        due("one is missing", NONE, x.move(0, 0, 3, 0, 1));
        due("one is missing", NONE, x.move(3, 0, 0, 0, 1));
        due("no such SHEET, ahead of missing", BEYOND, x.move(3, 0, 4, 0, 1));
        due("no such SHEET", BEYOND, x.move(-1, 0, 0, 0, 1));
        row(x, 1, "3121");
    }

    private static void p35and36() {
        promise = 35;
        NineDemands x = five();
        feed(x, "c=1|");
        x.tell(1);
        x.tell(2);
        x.form(5);
        due("the first", 1, x.image());
        feed5(x);
        x.law(0, 1);
        x.price(0, 50);
        x.form(0);
        x.learn(0);
        x.tell(3);
        x.sheet(0, 8, 3);
        x.voice(4, 2, 1);
        promise = 36;
        due("LAWS", 5, x.restore());
        due("PRICES", 26, x.count(1));
        due("both in 1 and 2", 2, x.count(2));
        due("THE TAPE", 4, x.count(3));
        due("waiting", 2, x.count(4));
        due("THE TRACE is as it was", 4, x.count(5));
        due("a SHEET is as it was", BEYOND, x.put(0, 3, 0));
        due("what told() tells, too", 1, x.told(1));
        feed5(x);
        due("THE TAPE's bytes", 5, x.law(0, 1));
        due("c=1|c=2 is so", 1, x.so(5, 0, 2, 0));
        due("the numbers that wait", 2, x.learn(0));
        due("another LAW 5 with other RULES", 4096, x.rules(32));
        due("LAWS", 5, x.restore());
        x.law(3, 1);
        due("LAW 5 is another one now", 729, x.rules(32));
        due("it stays", 5, x.restore());
        due("it stays", 5, x.restore());
        due("the second", 2, x.image());
        due("none yet", NONE, new NineDemands().restore());
    }

    private static void feed5(NineDemands x) {
        long word = 0;
        String text = "c=2";
        for (int i = 0; i < 3; i++) {
            word |= (long) text.charAt(i) << 8 * i;
        }
        due("three more", 7, x.feed(word, 3));
    }

    private static void p37and38() {
        promise = 37;
        NineDemands x = five();
        for (int n = 1; n <= 20; n++) {
            due("waiting", n, x.tell(n > 12 ? 7 : 1));
        }
        due("FULL", FULL, x.tell(1));
        promise = 38;
        due("place 12 stands for no HALL", 13, x.learn(0));
        due("none wait", 0, x.count(4));
        due("none", 0, x.learn(0));
        x.tell(1);
        x.tell(1);
        x.tell(2);
        due("place 2", 3, x.learn(7));
        x.tell(0);
        due("place 0", 1, x.learn(7));
        x.tell(1);
        due("OUT", NONE, x.learn(28));
        due("none wait then, too", 0, x.count(4));
        x.tell(1);
        due("SET 32", BEYOND, x.learn(32));
        due("none wait then, too", 0, x.count(4));
        int[] first = {1, 1, 1, 2, 1, 1, 1, 1, 1, 1, 1, 2};
        for (int c : first) {
            x.tell(c);
        }
        due("all 12", 0, x.learn(7));
    }

    private static void p39and40() {
        promise = 39;
        NineDemands x = five();
        due("LAWS", 5, x.count(0));
        due("PRICES", 26, x.count(1));
        due("both", 12, x.count(2));
        feed(x, "c+1");
        due("bytes", 3, x.count(3));
        x.tell(LEAST);
        due("waiting", 1, x.count(4));
        x.voice(0, 3, 1);
        due("BODIES", 4, x.count(5));
        due("count(6)", BEYOND, x.count(6));
        due("count(-1)", BEYOND, x.count(-1));
        promise = 40;
        x = new NineDemands();
        due("told(0)", BEYOND, x.told(0));
        due("told(6)", BEYOND, x.told(6));
        due("told(least)", BEYOND, x.told(LEAST));
        due("these were counted, too", 3, x.told(1));
        x.restore();
        x.trace(0);
        due("NONE", 2, x.told(2));
        x.small(0);
        x.sheet(0, 8, -1);
        x.few(0);
        due("STATE", 3, x.told(3));
        for (int n = 0; n < 22; n++) {
            x.tell(0);
        }
        due("FULL", 2, x.told(4));
        x.sheet(0, 8, 1);
        x.block(0);
        due("KIND", 1, x.told(5));
        x.rules(1);
        due("BEYOND of a long", 4, x.told(1));
        due("asking counts nothing", 4, x.told(1));
    }

    public static void main(String[] args) {
        p1to3();
        p4to6();
        p7();
        p8();
        p9();
        texts();
        p10and11();
        p12();
        p13();
        p14and15();
        p16to21();
        p22();
        p23();
        p24to26();
        p27to29();
        p30and31();
        p32to34();
        p35and36();
        p37and38();
        p39and40();
        System.out.println(wrong == 0 ? "all promises hold" : wrong + " answers are not as due");
        if (wrong != 0) System.exit(1);
    }
}
