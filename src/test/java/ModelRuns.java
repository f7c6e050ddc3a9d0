import java.util.Random;

/** Runs of 512 calls by chance (always the same ones), each answer held against PlainVillage. */
public final class ModelRuns {
    private static final String[] TEXTS = {
        "b|c=1", "a|c=2", "c<3", "c=1|c=2|b>0", "c", "0", "1", "w|c=1|d>1", "c=d", "!(c=d)", "c+d>2",
        "(w=0&c=2)<(d=2)+1", "a>b&c=1|b>a&c=2|a=b", "s=2|c=d", "s=3|!(c=d)", "c=3|d=3", "c=w+1|c=3",
        "d=c|c=3", "!(s=3&c=1&d=2)", "i=0|d=c", "i=1|c=p+1", "c%2=d%2", "c*d%4>0", "c-d", "c/d=0|d=1",
        "(c=1)+(d=1)<2", "a*b=0|c=3", "r=2|c=r+1", "a>b&c=1|b>a&c=2|c=3", "c=p+1", "c=q+1", "!(c=3)",
        "(s=2)+(c=d)", "!(c=d)|c=3", "d=3|d=w+1", "c=1|d=2", "c>d|c=1", "s=3|c=1|d=2", "a=1|c<3", "!!!!!c=0",
        "!(c=2&d=3)", "!(c=d)|i=2", "(c+d)%3", "(c+d+i)%3", "(c*d+w)%3", "(c+2*d)%4", "(c+d+a)%3", "s=2|(c+d)%3",
        "s=2|(c+d+i)%3", "!(c=1&d=1)", "!(c=3&d=3)", "!(c=2&d=2)",
    };
    /** As many as the document lets an object be used for; and what the dearest step of a run may take of them. */
    private static final int CALLS = 512;
    private static final int DEAREST = 42;
    private static final String SIGNS = "abcspqrdwi0123456789!()+-*/%&|<=>x ";

    private final Random random;
    private final int run;
    private final NineDemands program = new NineDemands();
    private final PlainVillage plain = new PlainVillage();
    private String call = "";
    private int calls = 0;
    private static int wrong = 0;

    private ModelRuns(int run) {
        this.run = run;
        random = new Random(7919L * run + 1);
    }

    private void due(long got, long want) {
        calls++;
        if (got != want) {
            wrong++;
            System.out.println("run " + run + ": " + call + " answered " + got + ", due is " + want);
        }
    }

    private int pick(int from, int to) {
        return from + random.nextInt(to - from + 1);
    }

    private int aSet() {
        int sets = 1 << plain.laws.size();
        if (random.nextInt(40) == 0) return random.nextBoolean() ? -1 : sets;
        return random.nextInt(3) == 0 ? sets - 1 : random.nextInt(sets);
    }

    private int aLaw() {
        return random.nextInt(20) == 0 ? pick(-2, 9) : random.nextInt(Math.max(1, plain.laws.size()));
    }

    private int aHall() {
        return random.nextInt(25) == 0 ? pick(-3, 15) : random.nextInt(12);
    }

    private int aSheet() {
        return random.nextInt(20) == 0 ? pick(-2, 6) : random.nextInt(4);
    }

    private int anyInt() {
        switch (random.nextInt(4)) {
            case 0: return random.nextInt();
            case 1: return random.nextBoolean() ? Integer.MIN_VALUE : Integer.MAX_VALUE;
            default: return pick(-20, 20);
        }
    }

    private String grown(int depth) {
        switch (random.nextInt(depth <= 0 ? 2 : 6)) {
            case 0: return String.valueOf(random.nextInt(4));
            case 1: return String.valueOf("abcspqrdwi".charAt(random.nextInt(10)));
            case 2: return "!" + grown(depth - 1);
            case 3: return "(" + grown(depth - 1) + ")";
            default: return grown(depth - 1) + "+-*/%&|<=>&|=".charAt(random.nextInt(13)) + grown(depth - 1);
        }
    }

    private String aText() {
        StringBuilder text = new StringBuilder();
        int how = random.nextInt(10);
        if (how < 6) {
            text.append(TEXTS[random.nextInt(TEXTS.length)]);
        } else {
            text.append(grown(4));
        }
        if (how == 9 && text.length() > 0) {
            text.setCharAt(random.nextInt(text.length()), SIGNS.charAt(random.nextInt(SIGNS.length())));
        }
        text.setLength(Math.min(50, text.length()));
        return text.toString();
    }

    private void feed(String text) {
        for (int at = 0; at < text.length(); at += 8) {
            int n = Math.min(8, text.length() - at);
            long word = random.nextLong() << 8 * (n - 1) << 8;
            for (int i = n - 1; i >= 0; i--) {
                word = word & ~(255L << 8 * i) | (long) text.charAt(at + i) << 8 * i;
            }
            call = "feed(" + word + ", " + n + ")";
            due(program.feed(word, n), plain.feed(word, n));
        }
    }

    private void aNewLaw() {
        int kind = random.nextInt(30) == 0 ? pick(-1, 6) : random.nextInt(6);
        int price = random.nextInt(30) == 0 ? pick(-2, 102) : random.nextInt(9);
        if (kind == 0 || kind == 1 || kind == 4) feed(aText());
        String tape = plain.tape;
        call = "law(" + kind + ", " + price + ") of " + tape;
        due(program.law(kind, price), plain.law(kind, price));
    }

    /** THE SHOWING of a SET on a SHEET, whole or a little spoilt. */
    private void checked() {
        int set = aSet();
        int sheet = random.nextInt(4);
        if (set < 0 || set >= 1 << plain.laws.size()) return;
        java.util.List<Integer> steps = plain.showing(set);
        int n = Math.min(40, steps.size() - 1);
        int bits = random.nextInt(4) == 0 ? 8 : random.nextBoolean() ? 16 : 32;
        call = "sheet(" + sheet + ", " + bits + ", " + n + ")";
        due(program.sheet(sheet, bits, n), plain.sheet(sheet, bits, n));
        for (int i = 0; i < n; i++) {
            int v = random.nextInt(60) == 0 ? random.nextInt(400) - 5 : steps.get(i);
            call = "put(" + sheet + ", " + i + ", " + v + ")";
            due(program.put(sheet, i, v), plain.put(sheet, i, v));
        }
        call = "check(" + set + ", " + sheet + ")";
        due(program.check(set, sheet), plain.check(set, sheet));
    }

    private void aCall() {
        int set = aSet();
        int law = aLaw();
        int hall = aHall();
        int sheet = aSheet();
        int x = anyInt();
        int i = random.nextInt(8) == 0 ? anyInt() : random.nextInt(33);
        int what = pick(-3, 13);
        int choice = pick(random.nextInt(9) == 0 ? 0 : 1, random.nextInt(9) == 0 ? 4 : 3);
        int which = random.nextInt(46);
        call = "call " + which + " set " + set + " law " + law + " hall " + hall + " sheet " + sheet + " x " + x
            + " i " + i + " what " + what + " choice " + choice;
        switch (which) {
            case 0: due(program.hall(hall, what), plain.hall(hall, what)); break;
            case 1: due(program.moved(hall, what % 4), plain.moved(hall, what % 4)); break;
            case 2: case 3: due(program.choose(hall, choice), plain.choose(hall, choice)); break;
            case 4: due(program.chosen(hall), plain.chosen(hall)); break;
            case 5: due(program.block(sheet), plain.block(sheet)); break;
            case 6: due(program.form(what), plain.form(what)); break;
            case 7: due(program.feed(x * 65599L, what), plain.feed(x * 65599L, what)); break;
            case 8: case 9: case 10: case 11: aNewLaw(); break;
            case 12: due(program.price(law, what * 8), plain.price(law, what * 8)); break;
            case 13: due(program.as(law, what % 7), plain.as(law, what % 7)); break;
            case 14: due(program.part(law, i, what % 3), plain.part(law, i, what % 3)); break;
            case 15: due(program.so(law, i, choice, what % 4), plain.so(law, i, choice, what % 4)); break;
            case 16: due(program.breach(law), plain.breach(law)); break;
            case 17: due(program.kept(), plain.kept()); break;
            case 18: due(program.find(set, hall), plain.find(set, hall)); break;
            case 19: due(program.write(set), plain.write(set)); break;
            case 20: due(program.rules(set), plain.rules(set)); break;
            case 21: due(program.may(set, hall), plain.may(set, hall)); break;
            case 22: due(program.near(set), plain.near(set)); break;
            case 23: due(program.word(set), plain.word(set)); break;
            case 24: due(program.show(set, what), plain.show(set, what)); break;
            case 25: due(program.show(set, -1), plain.show(set, -1)); break;
            case 26: due(program.check(set, sheet), plain.check(set, sheet)); break;
            case 27: due(program.small(set), plain.small(set)); break;
            case 28: due(program.few(set), plain.few(set)); break;
            case 29: due(program.give(set, what & 1), plain.give(set, what & 1)); break;
            case 30: due(program.follows(set, law), plain.follows(set, law)); break;
            case 31: due(program.spare(set), plain.spare(set)); break;
            case 32: int other = aSet(); due(program.same(set, other), plain.same(set, other)); break;
            case 33: case 34: due(program.voice(law, what % 5, x), plain.voice(law, what % 5, x)); break;
            case 35: due(program.trace(what), plain.trace(what)); break;
            case 36: int bits = (i & 3) == 3 ? what : 8 << (i & 3);
                due(program.sheet(sheet, bits, what * 4), plain.sheet(sheet, bits, what * 4)); break;
            case 37: due(program.put(sheet, what, choice + (x << 8)), plain.put(sheet, what, choice + (x << 8))); break;
            case 38: due(program.move(sheet, i % 9, i & 3, what, choice), plain.move(sheet, i % 9, i & 3, what, choice)); break;
            case 39: due(program.image(), plain.image()); break;
            case 40: due(program.restore(), plain.restore()); break;
            case 41: due(program.tell(choice), plain.tell(choice)); break;
            case 42: due(program.learn(set), plain.learn(set)); break;
            case 43: due(program.count(what), plain.count(what)); break;
            case 44: due(program.told(what), plain.told(what)); break;
            default: checked();
        }
    }

    private void go() {
        for (int n = pick(2, 7); n > 0; n--) aNewLaw();
        while (calls <= CALLS - DEAREST) aCall();
        for (int k = 0; calls < CALLS; k++) lookedAt(k / 3, k % 3);
    }

    /** What is left of a run's calls looks at how the village stands at its end. */
    private void lookedAt(int k, int how) {
        call = "at the end, " + how + " of " + k;
        switch (how) {
            case 0: due(program.told(k % 7), plain.told(k % 7)); break;
            case 1: due(program.count(k % 7), plain.count(k % 7)); break;
            default: due(program.chosen(k % 13), plain.chosen(k % 13));
        }
    }

    public static void main(String[] args) {
        int from = args.length > 0 ? Integer.parseInt(args[0]) : 0;
        int to = args.length > 1 ? Integer.parseInt(args[1]) : 150;
        for (int run = from; run < to; run++) new ModelRuns(run).go();
        System.out.println(wrong == 0 ? "all answers are as the plain village's" : wrong + " answers are not as due");
        if (wrong != 0) System.exit(1);
    }
}
