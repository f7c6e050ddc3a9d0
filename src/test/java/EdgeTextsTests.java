/** The document's Terms 3, sentence by sentence: TEXTS, their FAULTS and what they are worth. */
public final class EdgeTextsTests {

    private static void fault(int kind, String text, int at) {
        NineDemands x = new NineDemands();
        Edge.feed(x, text);
        Edge.due("bytes of " + text, text.length(), x.count(3));
        Edge.due("law(" + kind + ", 0) of " + text, -10 - at, x.law(kind, 0));
    }

    private static void sound(int kind, String text) {
        NineDemands x = new NineDemands();
        Edge.feed(x, text);
        Edge.due("bytes of " + text, text.length(), x.count(3));
        Edge.due("law(" + kind + ", 0) of " + text, 0, x.law(kind, 0));
    }

    /** What a TEXT is worth in HALL 5 (three PEOPLE, PERSON 0 alone wants B) with CHOICE 2. */
    private static void worth(String text, int want) {
        NineDemands x = new NineDemands();
        String number = want < 0 ? "0-" + -want : String.valueOf(want);
        Edge.due("law of " + text, 0, Edge.law(x, 0, 0, "(" + text + ")=" + number));
        Edge.due(text + " is " + want, 1, x.so(0, 5, 2, 0));
    }

    // ---- how long a TEXT may be

    @Says(in = "Terms 3", words = "TEXTS are read from THE TAPE (bytes, at most 50)")
    static void t3AllFiftyBytes() {
        String fifty = "c" + "+0".repeat(23) + "+00";
        Edge.due("its length", 50, fifty.length());
        sound(0, fifty);
        sound(0, fifty.substring(0, 49));
        fault(0, fifty.substring(0, 49) + "+", 50);
        fault(0, fifty.substring(0, 49) + "x", 49);
        fault(0, "x" + fifty.substring(1), 0);
    }

    @Says(in = "Terms 3", words = "TEXTS are read from THE TAPE (bytes, at most 50)")
    static void t3AnyByte() {
        String known = "abcspqrdwi0123456789!(";
        for (int sign = 0; sign < 256; sign++) {
            boolean begins = known.indexOf(sign) >= 0;
            int at = sign == '!' || sign == '(' ? 1 : 0;
            NineDemands x = new NineDemands();
            x.feed(sign, 1);
            boolean whole = begins && at == 0;
            Edge.due("a MOVED of byte " + sign, whole ? 0 : -10 - at, x.law(1, 0));
        }
    }

    @Says(in = "Terms 3", words = "TEXTS are read from THE TAPE (bytes, at most 50)")
    static void t3AnyByteBehindAName() {
        String goesOn = "|&<=>+-*/%";
        for (int sign = 0; sign < 256; sign++) {
            NineDemands x = new NineDemands();
            x.feed('c' | sign << 8, 2);
            int at = goesOn.indexOf(sign) >= 0 ? 2 : 1;
            Edge.due("c and byte " + sign, -10 - at, x.law(0, 0));
        }
    }

    // ---- what a TEXT is

    @Says(in = "Terms 3", words = "T: A { | A }")
    static void t3Either() {
        worth("0|0", 0);
        worth("0|0|2", 1);
        worth("1|0|0", 1);
        worth("1|0&0", 1);
        worth("0&0|1", 1);
        sound(0, "1" + "|1".repeat(24));
        fault(0, "1|", 2);
        fault(0, "|1", 0);
        fault(0, "1||1", 2);
        fault(0, "1|&1", 2);
    }

    @Says(in = "Terms 3", words = "A: B { & B }")
    static void t3All() {
        worth("2&3&4", 1);
        worth("2&3&0", 0);
        worth("0&1", 0);
        worth("1&1=1", 1);
        worth("2&3=3&1", 1);
        sound(0, "1" + "&1".repeat(24));
        fault(0, "1&", 2);
        fault(0, "&1", 0);
        fault(0, "1&&1", 2);
        fault(0, "1&|1", 2);
    }

    @Says(in = "Terms 3", words = "B: S, or S < S, S = S, S > S")
    static void t3Compared() {
        worth("1<2", 1);
        worth("2<2", 0);
        worth("3<2", 0);
        worth("1=2", 0);
        worth("2=2", 1);
        worth("1>2", 0);
        worth("2>2", 0);
        worth("3>2", 1);
        worth("(0-1)<0", 1);
        worth("1+1=4-2", 1);
        worth("7", 7);
        for (String one : new String[] {"<", "=", ">"}) {
            for (String other : new String[] {"<", "=", ">"}) {
                fault(0, "1" + one + "1" + other + "1", 3);
                fault(0, "1" + one + other + "1", 2);
            }
            fault(0, "1" + one, 2);
            fault(0, one + "1", 0);
            sound(0, "1" + one + "1&1" + one + "1|1" + one + "1");
        }
        sound(0, "(1<1)<(1<1)");
    }

    @Says(in = "Terms 3", words = "S: P { + P, - P }")
    static void t3Sums() {
        worth("1+2+3", 6);
        worth("9-3-2", 4);
        worth("9-3+2", 8);
        worth("1-5", -4);
        sound(0, "1" + "+1".repeat(24));
        sound(0, "1" + "-1".repeat(24));
        fault(0, "1+", 2);
        fault(0, "1-", 2);
        fault(0, "+1", 0);
        fault(0, "-1", 0);
        fault(0, "1+-1", 2);
        fault(0, "1--1", 2);
        fault(0, "1=-1", 2);
    }

    @Says(in = "Terms 3", words = "P: Q { * Q, / Q, % Q }")
    static void t3Products() {
        worth("2+3*4", 14);
        worth("2*3+4", 10);
        worth("20-8/4", 18);
        worth("24/4/3", 2);
        worth("24/4*3", 18);
        worth("17%10%4", 3);
        worth("17%10*4", 28);
        worth("3*17%10", 1);
        for (String sign : new String[] {"*", "/", "%"}) {
            sound(0, "1" + (sign + "1").repeat(24));
            fault(0, "1" + sign, 2);
            fault(0, sign + "1", 0);
            fault(0, "1" + sign + sign + "1", 2);
            fault(0, "1" + sign + "-1", 2);
        }
    }

    @Says(in = "Terms 3", words = "a NUMBER of 1 to 4 digits")
    static void t3OneToFourDigits() {
        worth("0", 0);
        worth("7", 7);
        worth("9999", 9999);
        worth("0007", 7);
        worth("0000", 0);
        worth("1234", 1234);
        fault(0, "12345", 4);
        fault(0, "00001", 4);
        fault(0, "1+12345", 6);
        fault(0, "1234c", 4);
        fault(0, "1c", 1);
        fault(0, "1(", 1);
    }

    @Says(in = "Terms 3", words = "a NAME")
    static void t3OneNameAlone() {
        worth("c", 2);
        worth("c*s", 6);
        fault(0, "cs", 1);
        fault(0, "c1", 1);
        fault(0, "c(", 1);
        fault(0, "C", 0);
    }

    @Says(in = "Terms 3", words = "! Q")
    static void t3Not() {
        worth("!0", 1);
        worth("!7", 0);
        worth("!!7", 1);
        worth("!c=0", 1);
        worth("!0+1", 2);
        worth("!0*5", 5);
        worth("5*!0", 5);
        worth("!(1=2)", 1);
        fault(0, "!", 1);
        fault(0, "c!", 1);
        fault(0, "!)", 1);
        fault(0, "!=", 1);
    }

    @Says(in = "Terms 3", words = "( T )")
    static void t3Brackets() {
        worth("(1+2)*3", 9);
        worth("2*(3|0)", 2);
        worth("(1=1)+(2=2)", 2);
        worth("9-(3-2)", 8);
        fault(0, "()", 1);
        fault(0, "(", 1);
        fault(0, "(1", 2);
        fault(0, "(1))", 3);
        fault(0, ")", 0);
        fault(0, "1)", 1);
        fault(0, "(1)(1)", 3);
        fault(0, "(1)1", 3);
        fault(0, "(1=1=1)", 4);
    }

    @Says(in = "Terms 3", words = "No blanks")
    static void t3NoBlanks() {
        fault(0, " c", 0);
        fault(0, "c ", 1);
        fault(0, "c =1", 1);
        fault(0, "c= 1", 2);
        fault(0, "( c)", 1);
        fault(0, "! c", 1);
        fault(0, "1 2", 1);
        fault(0, "c\n", 1);
        fault(0, "c\t", 1);
        fault(0, " ", 0);
    }

    // ---- how deep a TEXT may go

    @Says(in = "Terms 3", words = "At most 5 of ! and ( are open at once")
    static void t3FiveOpen() {
        worth("!!!!0", 0);
        sound(0, "!!!!!c");
        sound(0, "(((((c)))))");
        sound(0, "!(!(!c))");
        sound(0, "(!(!(c)))");
    }

    @Says(in = "Terms 3", words = "At most 5 of ! and ( are open at once")
    static void t3ASixth() {
        fault(0, "!!!!!!c", 5);
        fault(0, "((((((c))))))", 5);
        fault(0, "!(!(!(c)))", 5);
        fault(0, "(!(!(!c)))", 5);
        fault(0, "(((((1+!c)))))", 7);
        fault(0, "(((((c)+(c))))))", 15);
    }

    @Says(in = "Terms 3", words = "are open at once")
    static void t3OpenNoMore() {
        sound(0, "!!!!!c+!!!!!c*!!!!!c=!!!!!c&!!!!!c|!!!!!c");
        sound(0, "(((((c)))))-(((((c)))))");
        sound(0, "((((!c+(c)+!c+(c)))))");
        sound(0, "((((!c))))|!((((c))))");
        fault(0, "((((!c+(c)+!c+(!c", 15);
        fault(0, "((((!c+(!c+(c", 8);
    }

    // ---- what a TEXT is worth

    @Says(in = "Terms 3", words = "Ints that wrap")
    static void t3Wrap() {
        worth("9999*9999*22<0", 1);
        worth("9999*9999*21+9999*9999*21<0", 1);
        worth("8192*8192*32<0", 1);
        worth("8192*8192*32-1>0", 1);
        worth("8192*8192*64", 0);
        worth("8192*8192*32-1+1<0", 1);
        worth("0-8192*8192*32<0", 1);
    }

    @Says(in = "Terms 3", words = "/ cut")
    static void t3Cut() {
        worth("7/2", 3);
        worth("(0-7)/2", -3);
        worth("7/(0-2)", -3);
        worth("(0-7)/(0-2)", 3);
        worth("1/2", 0);
        worth("8192*8192*32/(0-1)<0", 1);
    }

    @Says(in = "Terms 3", words = "% the rest that it leaves")
    static void t3Rest() {
        worth("7%2", 1);
        worth("(0-7)%2", -1);
        worth("7%(0-2)", 1);
        worth("(0-7)%(0-2)", -1);
        worth("6%2", 0);
        worth("8192*8192*32%(0-1)", 0);
    }

    @Says(in = "Terms 3", words = "both by 0 are 0")
    static void t3ByNothing() {
        worth("5/0", 0);
        worth("5%0", 0);
        worth("0/0", 0);
        worth("0%0", 0);
        worth("5/(c-2)", 0);
        worth("5%(c-2)+1", 1);
        worth("(0-5)/0", 0);
    }

    @Says(in = "Terms 3", words = "| & < = > ! are 1 or 0, what is not 0 being true")
    static void t3Truth() {
        worth("(5|7)+(0|9)", 2);
        worth("(5&7)+(4&9)", 2);
        worth("(1<9)+(9>1)+(9=9)", 3);
        worth("!(0-1)", 0);
        worth("(0-1)&(0-2)", 1);
        worth("(0-1)|0", 1);
        worth("2&1", 1);
        worth("4|0", 1);
    }

    @Says(in = "Terms 3", words = "all is worked out")
    static void t3AllIsWorkedOut() {
        worth("1|1/0", 1);
        worth("0&1%0", 0);
        worth("0|1/0", 0);
        worth("1&5/0", 0);
    }

    // ---- FAULTS

    @Says(in = "Terms 3", words = "FAULT: the place of the first byte with which no TEXT goes on")
    static void t3FirstFault() {
        fault(0, "x", 0);
        fault(0, "c=x", 2);
        fault(0, "c=1+x*y", 4);
        fault(0, "x=x", 0);
        fault(0, "(c=1))&x", 5);
        fault(0, "c=1=", 3);
        fault(0, "(c<1>", 4);
        fault(0, "c|c&c=c+c*c$", 11);
    }

    @Says(in = "Terms 3", words = "how many there are, if it ends too early")
    static void t3EndsTooEarly() {
        fault(0, "", 0);
        fault(1, "", 0);
        fault(4, "", 0);
        fault(0, "c=", 2);
        fault(0, "(c=1", 4);
        fault(0, "c=1&", 4);
        fault(0, "((((c+1)*2)|c)", 14);
        fault(0, "(((((", 5);
        fault(0, "!!!!!", 5);
        fault(0, "0+".repeat(25), 50);
    }

    // ---- NAMES

    /** What a NAME means in a CASE of LAW, MOVED or COMES, with CHOICES c and d. */
    private static int meaning(char name, int h, int k, int who, int c, int d) {
        switch (name) {
            case 'a': return Edge.howManyWant(h, 0);
            case 'b': return Edge.howManyWant(h, 1);
            case 'c': return c;
            case 's': return Edge.peopleIn(h);
            case 'p': return Edge.wants(h, 0);
            case 'q': return Edge.wants(h, 1);
            case 'r': return Edge.wants(h, 2);
            case 'd': return d;
            case 'w': return who < 3 ? Edge.wants(h, who) : Edge.wants(k, 2);
            default: return who;
        }
    }

    /** Asks of each number from 0 to 3 in which CASES a NAME is that number. */
    private static void dueName(int kind, char name, int[][] cases) {
        for (int number = 0; number <= 3; number++) {
            NineDemands x = new NineDemands();
            Edge.due("law of " + name, 0, Edge.law(x, kind, 0, name + "=" + number));
            for (int i = 0; i < cases.length; i++) {
                for (int c = 1; c <= 3; c++) {
                    int d = 1 + (c + i) % 3;
                    int means = meaning(name, cases[i][0], cases[i][1], cases[i][2], c, d);
                    String call = name + "=" + number + " in CASE " + i + " of KIND " + kind;
                    Edge.due(call, means == number ? 1 : 0, x.so(0, i, c, d));
                }
            }
        }
    }

    private static int[][] casesOfLaw() {
        int[][] cases = new int[12][];
        for (int h = 0; h < 12; h++) {
            cases[h] = new int[] {h, h, 0};
        }
        return cases;
    }

    private static int[][] casesOfMoved() {
        int[][] cases = new int[32][];
        int n = 0;
        for (int h = 0; h < 12; h++) {
            for (int who = 0; who < Edge.peopleIn(h); who++) {
                int base = h < 4 ? 0 : 4;
                cases[n++] = new int[] {h, base + (h - base ^ 1 << who), who};
            }
        }
        return cases;
    }

    private static int[][] casesOfComes() {
        int[][] cases = new int[8][];
        for (int i = 0; i < 8; i++) {
            cases[i] = new int[] {i / 2, 4 + i / 2 + i % 2 * 4, 3};
        }
        return cases;
    }

    private static void dueNames(String names) {
        for (char name : names.toCharArray()) {
            dueName(0, name, casesOfLaw());
            dueName(1, name, casesOfMoved());
            dueName(4, name, casesOfComes());
        }
    }

    @Says(in = "Terms 3", words = "NAMES: a, b how many want A, B in h")
    static void t3NamesAandB() {
        dueNames("ab");
    }

    @Says(in = "Terms 3", words = "c; s how many PEOPLE h has")
    static void t3NamesCandS() {
        dueNames("cs");
    }

    @Says(in = "Terms 3", words = "p, q, r what PEOPLE 0, 1, 2 want in h (0 A, 1 B, 2 not there)")
    static void t3NamesOfPeople() {
        dueNames("pqr");
    }

    @Says(in = "Terms 3", words = "of MOVED and COMES also d")
    static void t3NameD() {
        dueName(1, 'd', casesOfMoved());
        dueName(4, 'd', casesOfComes());
        fault(0, "d", 0);
        fault(0, "c=d", 2);
    }

    @Says(in = "Terms 3", words = "w what the one who changes wants in h (0, 1), of COMES what PERSON 2 wants in k")
    static void t3NameW() {
        dueName(1, 'w', casesOfMoved());
        dueName(4, 'w', casesOfComes());
        fault(0, "w", 0);
    }

    @Says(in = "Terms 3", words = "of MOVED also i (who)")
    static void t3NameI() {
        dueName(1, 'i', casesOfMoved());
        fault(0, "i", 0);
        fault(4, "i", 0);
        fault(4, "c+d+w+i", 6);
    }

    public static void main(String[] args) {
        Edge.run(EdgeTextsTests.class);
    }
}
