import java.util.ArrayDeque;
import java.util.ArrayList;
import java.util.BitSet;
import java.util.HashMap;
import java.util.List;
import java.util.Map;

/**
 * The document once more, as slowly and plainly as can be: every RULE is written out, every LAW
 * has the set of all RULES that keep it. What NineDemands answers is held against this.
 */
final class PlainVillage {
    static final int LOW = -1000000;
    static final int BEYOND = LOW - 1, NONE = LOW - 2, STATE = LOW - 3, FULL = LOW - 4, KIND = LOW - 5;
    static final int RULES = 531441;

    static final class Case {
        int h;
        int k = -1;
        int who = -1;
        int want = -1;
    }

    static final class PlainLaw {
        int kind;
        int price;
        List<Case> cases;
        String text;
        BitSet keepers;

        PlainLaw copy() {
            PlainLaw other = new PlainLaw();
            other.kind = kind;
            other.price = price;
            other.cases = cases;
            other.text = text;
            other.keepers = keepers;
            return other;
        }
    }

    /** LAWS of the same KIND and TEXT are kept by the same RULES, in whatever village. */
    static final Map<String, BitSet> KEEPERS = new HashMap<>();

    int[] rule = {3, 3, 3, 3, 3, 3, 3, 3, 3, 3, 3, 3};
    List<PlainLaw> laws = new ArrayList<>();
    String tape = "";
    List<Integer> waits = new ArrayList<>();
    int[] imageRule;
    List<PlainLaw> imageLaws;
    String imageTape;
    List<Integer> imageWaits;
    int images;
    List<Integer> trace = new ArrayList<>();
    int[][] sheets = new int[4][];
    int[] sheetBits = new int[4];
    int[] told = new int[6];

    private int err(int error) {
        told[LOW - error]++;
        return error;
    }

    // ---- halls

    static int[] wantsIn(int hall) {
        int bits = hall < 4 ? hall : hall - 4;
        int[] wants = {bits & 1, bits >> 1 & 1, hall < 4 ? 2 : bits >> 2 & 1};
        return wants;
    }

    static int hallOf(int[] wants) {
        return wants[2] == 2 ? wants[0] + 2 * wants[1] : 4 + wants[0] + 2 * wants[1] + 4 * wants[2];
    }

    static int howMany(int hall, int want) {
        int n = 0;
        for (int w : wantsIn(hall)) {
            n += w == want ? 1 : 0;
        }
        return n;
    }

    static int people(int hall) {
        return hall <= 3 ? 2 : 3;
    }

    int hall(int hall, int what) {
        if (hall < 0 || hall > 11) return err(BEYOND);
        if (what == 0) return people(hall);
        if (what == 1) return howMany(hall, 0);
        if (what == 2) return howMany(hall, 1);
        if (what >= 10 && what <= 12) return wantsIn(hall)[what - 10];
        return err(BEYOND);
    }

    int moved(int hall, int person) {
        if (hall < 0 || hall > 11 || person < 0 || person > 2) return err(BEYOND);
        int[] wants = wantsIn(hall);
        if (wants[person] == 2) return err(NONE);
        wants[person] = 1 - wants[person];
        return hallOf(wants);
    }

    int choose(int hall, int choice) {
        if (hall < 0 || hall > 11 || choice < 1 || choice > 3) return err(BEYOND);
        int was = rule[hall];
        rule[hall] = choice;
        return was;
    }

    int chosen(int hall) {
        return hall < 0 || hall > 11 ? err(BEYOND) : rule[hall];
    }

    int block(int sheet) {
        if (sheet < 0 || sheet > 3) return err(BEYOND);
        if (sheets[sheet] == null) return err(NONE);
        int n = Math.min(12, sheets[sheet].length);
        for (int i = 0; i < n; i++) {
            if (sheets[sheet][i] < 1 || sheets[sheet][i] > 3) return err(KIND);
        }
        for (int i = 0; i < n; i++) rule[i] = sheets[sheet][i];
        return n;
    }

    static int formChoice(int form, int hall) {
        int a = howMany(hall, 0);
        int b = howMany(hall, 1);
        int[] wants = wantsIn(hall);
        int most = a > b ? 1 : b > a ? 2 : 0;
        switch (form) {
            case 0: return 1;
            case 1: return 2;
            case 2: return 3;
            case 3: return wants[0] + 1;
            case 4: return wants[1] + 1;
            case 5: return most == 0 ? 3 : most;
            case 6: return most == 0 ? 1 : most;
            case 7: return most == 0 ? 2 : most;
            case 8: return most == 0 ? wants[0] + 1 : most;
            case 9: return b == 0 ? 1 : a == 0 ? 2 : 3;
            case 10: return b > 0 ? 2 : 1;
            default: return a > 0 ? 1 : 2;
        }
    }

    int form(int form) {
        if (form < 0 || form > 11) return err(BEYOND);
        int changed = 0;
        for (int h = 0; h < 12; h++) {
            int c = formChoice(form, h);
            if (rule[h] != c) changed++;
            rule[h] = c;
        }
        return changed;
    }

    // ---- laws

    int feed(long word, int n) {
        if (n < 1 || n > 8) return err(BEYOND);
        if (tape.length() + n > 50) return err(FULL);
        for (int i = 0; i < n; i++) tape += (char) (word >> 8 * i & 255);
        return tape.length();
    }

    static String namesOf(int kind) {
        return kind == 0 ? "abcspqr" : kind == 1 ? "abcspqrdwi" : "abcspqrdw";
    }

    /** Walks through the bytes with a stack of what is open: -1, or the FAULT. */
    static int faultOf(String text, String names) {
        ArrayDeque<Character> open = new ArrayDeque<>();
        ArrayDeque<Boolean> compared = new ArrayDeque<>();
        compared.push(false);
        boolean wanting = true;
        int digits = 0;
        for (int i = 0; i < text.length(); i++) {
            char ch = text.charAt(i);
            boolean digit = ch >= '0' && ch <= '9';
            if (wanting) {
                if (digit || names.indexOf(ch) >= 0) {
                    wanting = false;
                    digits = digit ? 1 : 0;
                    while (!open.isEmpty() && open.peek() == '!') open.pop();
                } else if ((ch == '!' || ch == '(') && open.size() < 5) {
                    open.push(ch);
                    if (ch == '(') compared.push(false);
                } else {
                    return i;
                }
                continue;
            }
            if (digit && digits > 0 && digits < 4) {
                digits++;
                continue;
            }
            digits = 0;
            if ("+-*/%".indexOf(ch) >= 0) {
                wanting = true;
            } else if (ch == '&' || ch == '|') {
                wanting = true;
                compared.pop();
                compared.push(false);
            } else if ("<=>".indexOf(ch) >= 0 && !compared.peek()) {
                wanting = true;
                compared.pop();
                compared.push(true);
            } else if (ch == ')' && !open.isEmpty()) {
                open.pop();
                compared.pop();
                while (!open.isEmpty() && open.peek() == '!') open.pop();
            } else {
                return i;
            }
        }
        return wanting || !open.isEmpty() ? text.length() : -1;
    }

    /** Splits a sound TEXT at its weakest sign, the last of those that bind as weakly. */
    static int worth(String t, Map<Character, Integer> names) {
        String[] levels = {"|", "&", "<=>", "+-", "*/%"};
        for (String level : levels) {
            int depth = 0;
            for (int i = t.length() - 1; i > 0; i--) {
                char ch = t.charAt(i);
                if (ch == ')') depth++;
                if (ch == '(') depth--;
                if (depth == 0 && level.indexOf(ch) >= 0) {
                    return joined(ch, worth(t.substring(0, i), names), worth(t.substring(i + 1), names));
                }
            }
        }
        if (t.charAt(0) == '!') return worth(t.substring(1), names) == 0 ? 1 : 0;
        if (t.charAt(0) == '(') return worth(t.substring(1, t.length() - 1), names);
        if (Character.isDigit(t.charAt(0))) return Integer.parseInt(t);
        return names.get(t.charAt(0));
    }

    static int joined(char sign, int x, int y) {
        switch (sign) {
            case '|': return x != 0 || y != 0 ? 1 : 0;
            case '&': return x != 0 && y != 0 ? 1 : 0;
            case '<': return x < y ? 1 : 0;
            case '=': return x == y ? 1 : 0;
            case '>': return x > y ? 1 : 0;
            case '+': return x + y;
            case '-': return x - y;
            case '*': return x * y;
            case '/': return y == 0 ? 0 : x / y;
            default: return y == 0 ? 0 : x % y;
        }
    }

    static List<Case> casesOf(int kind) {
        List<Case> cases = new ArrayList<>();
        for (int h = 0; h < 12; h++) {
            int[] wants = wantsIn(h);
            if (kind == 0 || kind == 5) {
                add(cases, h, -1, -1, -1);
            } else if (kind == 1) {
                for (int i = 0; i < people(h); i++) {
                    int[] other = wants.clone();
                    other[i] = 1 - other[i];
                    add(cases, h, hallOf(other), i, wants[i]);
                }
            } else if (kind == 2) {
                int[][] twos = {{0, 1}, {0, 2}, {1, 2}};
                for (int[] two : twos) {
                    int x = wants[two[0]];
                    int y = wants[two[1]];
                    if (two[1] < people(h) && x != y) {
                        int[] other = wants.clone();
                        other[two[0]] = y;
                        other[two[1]] = x;
                        add(cases, h, hallOf(other), -1, -1);
                    }
                }
            } else if (kind == 3) {
                int[] other = new int[3];
                for (int i = 0; i < 3; i++) other[i] = wants[i] == 2 ? 2 : 1 - wants[i];
                add(cases, h, hallOf(other), -1, -1);
            } else if (h < 4) {
                for (int w = 0; w < 2; w++) {
                    add(cases, h, hallOf(new int[] {wants[0], wants[1], w}), -1, w);
                }
            }
        }
        return cases;
    }

    private static void add(List<Case> cases, int h, int k, int who, int want) {
        Case one = new Case();
        one.h = h;
        one.k = k;
        one.who = who;
        one.want = want;
        cases.add(one);
    }

    static boolean isSo(PlainLaw law, Case one, int c, int d) {
        switch (law.kind) {
            case 5: return c != 3;
            case 2: return c == d;
            case 3: return d == (c == 1 ? 2 : c == 2 ? 1 : 3);
            default:
        }
        Map<Character, Integer> names = new HashMap<>();
        int[] wants = wantsIn(one.h);
        names.put('a', howMany(one.h, 0));
        names.put('b', howMany(one.h, 1));
        names.put('c', c);
        names.put('s', people(one.h));
        names.put('p', wants[0]);
        names.put('q', wants[1]);
        names.put('r', wants[2]);
        names.put('d', d);
        names.put('w', one.want);
        names.put('i', one.who);
        return worth(law.text, names) != 0;
    }

    static BitSet keepersOf(PlainLaw law) {
        String key = law.kind + law.text;
        BitSet known = KEEPERS.get(key);
        if (known != null) return known;
        int n = law.cases.size();
        boolean[][] so = new boolean[n][16];
        for (int i = 0; i < n; i++) {
            for (int c = 1; c < 4; c++) {
                for (int d = 1; d < 4; d++) so[i][4 * c + d] = isSo(law, law.cases.get(i), c, d);
            }
        }
        BitSet keepers = new BitSet(RULES);
        int[] choices = new int[12];
        for (int r = 0; r < RULES; r++) {
            spell(r, choices);
            boolean keeps = true;
            for (int i = 0; i < n && keeps; i++) {
                Case one = law.cases.get(i);
                keeps = so[i][4 * choices[one.h] + (one.k < 0 ? 1 : choices[one.k])];
            }
            if (keeps) keepers.set(r);
        }
        if (KEEPERS.size() > 400) KEEPERS.clear();
        KEEPERS.put(key, keepers);
        return keepers;
    }

    /** RULES are numbered so that the first in the document's order has the least number. */
    static void spell(int number, int[] choices) {
        int rest = number;
        for (int h = 11; h >= 0; h--) {
            choices[h] = rest % 3 + 1;
            rest /= 3;
        }
    }

    int law(int kind, int price) {
        if (kind < 0 || kind > 5 || price < 0 || price > 99) return err(BEYOND);
        if (laws.size() == 8) return err(FULL);
        PlainLaw law = new PlainLaw();
        law.kind = kind;
        law.price = price;
        law.text = "";
        if (kind == 0 || kind == 1 || kind == 4) {
            law.text = tape;
            tape = "";
            int fault = faultOf(law.text, namesOf(kind));
            if (fault >= 0) return -10 - fault;
        }
        law.cases = casesOf(kind);
        law.keepers = keepersOf(law);
        laws.add(law);
        return laws.size() - 1;
    }

    private boolean noLaw(int law) {
        return law < 0 || law >= laws.size();
    }

    private boolean noSet(int set) {
        return set < 0 || set > (1 << laws.size()) - 1;
    }

    int price(int law, int price) {
        if (noLaw(law) || price < 0 || price > 99) return err(BEYOND);
        int was = laws.get(law).price;
        laws.get(law).price = price;
        return was;
    }

    int as(int law, int kind) {
        if (noLaw(law) || kind < 0 || kind > 5) return err(BEYOND);
        int own = laws.get(law).kind;
        boolean under = own == kind || kind == 0 || kind == 1 && own >= 2 && own <= 4;
        return under ? laws.get(law).cases.size() : err(KIND);
    }

    int part(int law, int i, int what) {
        if (noLaw(law) || i < 0 || i >= laws.get(law).cases.size() || what < 0 || what > 1) return err(BEYOND);
        Case one = laws.get(law).cases.get(i);
        if (what == 0) return one.h;
        return one.k < 0 ? err(NONE) : one.k;
    }

    int so(int law, int i, int c, int d) {
        if (noLaw(law) || i < 0 || i >= laws.get(law).cases.size() || c < 1 || c > 3) return err(BEYOND);
        Case one = laws.get(law).cases.get(i);
        if (one.k >= 0 && (d < 1 || d > 3)) return err(BEYOND);
        return isSo(laws.get(law), one, c, d) ? 1 : 0;
    }

    static int firstBreach(PlainLaw law, int[] rule) {
        for (int i = 0; i < law.cases.size(); i++) {
            Case one = law.cases.get(i);
            if (!isSo(law, one, rule[one.h], one.k < 0 ? 0 : rule[one.k])) return i;
        }
        return -1;
    }

    int breach(int law) {
        if (noLaw(law)) return err(BEYOND);
        int at = firstBreach(laws.get(law), rule);
        return at < 0 ? err(NONE) : at;
    }

    int kept() {
        int bits = 0;
        for (int n = 0; n < laws.size(); n++) bits |= firstBreach(laws.get(n), rule) < 0 ? 1 << n : 0;
        return bits;
    }

    // ---- rules by a set

    BitSet fitting(int set) {
        BitSet fit = new BitSet(RULES);
        fit.set(0, RULES);
        for (int n = 0; n < laws.size(); n++) {
            if ((set >> n & 1) == 1) fit.and(laws.get(n).keepers);
        }
        return fit;
    }

    boolean out(int set) {
        return fitting(set).isEmpty();
    }

    int[] first(int set) {
        int number = fitting(set).nextSetBit(0);
        if (number < 0) return null;
        int[] choices = new int[12];
        spell(number, choices);
        return choices;
    }

    int find(int set, int hall) {
        if (noSet(set) || hall < 0 || hall > 11) return err(BEYOND);
        int[] first = first(set);
        return first == null ? err(NONE) : first[hall];
    }

    int write(int set) {
        if (noSet(set)) return err(BEYOND);
        int[] first = first(set);
        if (first == null) return err(NONE);
        rule = first;
        return count(2);
    }

    long rules(int set) {
        return noSet(set) ? err(BEYOND) : fitting(set).cardinality();
    }

    int may(int set, int hall) {
        if (noSet(set) || hall < 0 || hall > 11) return err(BEYOND);
        BitSet fit = fitting(set);
        int[] choices = new int[12];
        int bits = 0;
        for (int r = fit.nextSetBit(0); r >= 0; r = fit.nextSetBit(r + 1)) {
            spell(r, choices);
            bits |= 1 << choices[hall];
        }
        return bits;
    }

    int near(int set) {
        if (noSet(set)) return err(BEYOND);
        BitSet fit = fitting(set);
        int[] choices = new int[12];
        int best = 99;
        for (int r = fit.nextSetBit(0); r >= 0; r = fit.nextSetBit(r + 1)) {
            spell(r, choices);
            int off = 0;
            for (int h = 0; h < 12; h++) off += choices[h] == rule[h] ? 0 : 1;
            best = Math.min(best, off);
        }
        return best == 99 ? err(NONE) : best;
    }

    int word(int set) {
        if (noSet(set)) return err(BEYOND);
        for (int form = 0; form < 12; form++) {
            int number = 0;
            for (int h = 0; h < 12; h++) number = 3 * number + formChoice(form, h) - 1;
            if (fitting(set).get(number)) return form;
        }
        return err(NONE);
    }

    // ---- that there is none

    boolean[][] allLeft() {
        boolean[][] left = new boolean[12][4];
        for (boolean[] row : left) row[1] = row[2] = row[3] = true;
        return left;
    }

    static boolean anyLeft(boolean[] row) {
        return row[1] || row[2] || row[3];
    }

    /** Nothing of what is left elsewhere goes with a CHOICE of h (or of k, if asSecond). */
    static boolean lonely(PlainLaw law, Case one, boolean asSecond, int choice, boolean[][] left) {
        if (one.k < 0) return !isSo(law, one, choice, 0);
        for (int e = 1; e < 4; e++) {
            if (asSecond && left[one.h][e] && isSo(law, one, e, choice)) return false;
            if (!asSecond && left[one.k][e] && isSo(law, one, choice, e)) return false;
        }
        return true;
    }

    /** The STEPS, and behind them 1 if they are a PROOF, else 0. */
    List<Integer> showing(int set) {
        List<Integer> steps = new ArrayList<>();
        boolean[][] left = allLeft();
        boolean struck = true;
        while (struck) {
            struck = false;
            for (int n = 0; n < laws.size(); n++) {
                if ((set >> n & 1) == 0) continue;
                PlainLaw law = laws.get(n);
                for (Case one : law.cases) {
                    for (int side = 0; side < (one.k < 0 ? 1 : 2); side++) {
                        int hall = side == 0 ? one.h : one.k;
                        for (int c = 1; c < 4; c++) {
                            if (!left[hall][c] || !lonely(law, one, side == 1, c, left)) continue;
                            left[hall][c] = false;
                            struck = true;
                            steps.add(48 * n + 4 * hall + c);
                            if (!anyLeft(left[hall])) {
                                steps.add(1);
                                return steps;
                            }
                        }
                    }
                }
            }
        }
        steps.add(0);
        return steps;
    }

    int show(int set, int what) {
        if (noSet(set) || what < -2) return err(BEYOND);
        List<Integer> steps = showing(set);
        int size = steps.size() - 1;
        if (what == -1) return size;
        if (what == -2) return steps.get(size);
        return what >= size ? err(NONE) : steps.get(what);
    }

    int check(int set, int sheet) {
        if (noSet(set) || sheet < 0 || sheet > 3) return err(BEYOND);
        if (sheets[sheet] == null) return err(NONE);
        boolean[][] left = allLeft();
        int place = 0;
        for (int v : sheets[sheet]) {
            place++;
            if (v < 0 || v >= 48 * 8 || v % 4 == 0) return place;
            int n = v / 48;
            int hall = v % 48 / 4;
            if (n >= laws.size() || (set >> n & 1) == 0 || !left[hall][v % 4]) return place;
            boolean follows = false;
            for (Case one : laws.get(n).cases) {
                follows |= one.h == hall && lonely(laws.get(n), one, false, v % 4, left);
                follows |= one.k == hall && lonely(laws.get(n), one, true, v % 4, left);
            }
            if (!follows) return place;
            left[hall][v % 4] = false;
        }
        for (boolean[] row : left) {
            if (!anyLeft(row)) return 0;
        }
        return place + 1;
    }

    int small(int set) {
        if (noSet(set)) return err(BEYOND);
        if (!out(set)) return err(STATE);
        int best = set;
        for (int some = set; some >= 0; some--) {
            if ((some & set) == some && Integer.bitCount(some) <= Integer.bitCount(best) && out(some)) best = some;
        }
        return best;
    }

    private boolean canChoose(int set, int halls, int h, int[] choices) {
        if (h == 12) return true;
        if ((halls >> h & 1) == 0) return canChoose(set, halls, h + 1, choices);
        for (int c = 1; c < 4; c++) {
            choices[h] = c;
            if (soUpTo(set, halls, h, choices) && canChoose(set, halls, h + 1, choices)) return true;
        }
        return false;
    }

    private boolean soUpTo(int set, int halls, int last, int[] choices) {
        for (int n = 0; n < laws.size(); n++) {
            if ((set >> n & 1) == 0) continue;
            for (Case one : laws.get(n).cases) {
                int later = Math.max(one.h, one.k);
                boolean inside = (halls >> one.h & 1) == 1 && (one.k < 0 || (halls >> one.k & 1) == 1);
                if (later != last || !inside) continue;
                if (!isSo(laws.get(n), one, choices[one.h], one.k < 0 ? 0 : choices[one.k])) return false;
            }
        }
        return true;
    }

    int few(int set) {
        if (noSet(set)) return err(BEYOND);
        if (!out(set)) return err(STATE);
        for (int size = 1; size <= 12; size++) {
            for (int halls = 0; halls < 4096; halls++) {
                if (Integer.bitCount(halls) == size && !canChoose(set, halls, 0, new int[12])) return halls;
            }
        }
        throw new IllegalStateException();
    }

    int give(int set, int what) {
        if (noSet(set) || what < 0 || what > 1) return err(BEYOND);
        int best = -1;
        long bestKey = Long.MAX_VALUE;
        for (int some = 0; some <= set; some++) {
            if ((some & set) != some || out(set & ~some)) continue;
            int cost = 0;
            for (int n = 0; n < laws.size(); n++) cost += (some >> n & 1) * laws.get(n).price;
            long key = cost * 1000000L + Integer.bitCount(some) * 10000L + some;
            if (key < bestKey) {
                bestKey = key;
                best = some;
            }
        }
        return what == 0 ? best : (int) (bestKey / 1000000L);
    }

    private boolean implied(int set, int law) {
        BitSet fit = fitting(set);
        fit.andNot(laws.get(law).keepers);
        return fit.isEmpty();
    }

    int follows(int set, int law) {
        if (noSet(set) || noLaw(law)) return err(BEYOND);
        return implied(set, law) ? 1 : 0;
    }

    int spare(int set) {
        if (noSet(set)) return err(BEYOND);
        int bits = 0;
        for (int n = 0; n < laws.size(); n++) {
            if ((set >> n & 1) == 1 && implied(set ^ 1 << n, n)) bits |= 1 << n;
        }
        return bits;
    }

    int same(int one, int other) {
        if (noSet(one) || noSet(other)) return err(BEYOND);
        return fitting(one).equals(fitting(other)) ? 1 : 0;
    }

    // ---- voices: here the KINDS are classes of Java, whose own super and this do the work

    static class LawVoice {
        final int n;
        final int p;
        final List<Integer> trace;

        LawVoice(int n, int p, List<Integer> trace) {
            this.n = n;
            this.p = p;
            this.trace = trace;
        }

        int bids(int x) {
            trace.add(10);
            return x + n;
        }

        int bars(int x) {
            trace.add(11);
            return bids(x) * 2;
        }

        int yields(int x) {
            trace.add(12);
            return x - p;
        }

        int stands(int x) {
            trace.add(13);
            return bars(x) ^ this.yields(x);
        }
    }

    static class MovedVoice extends LawVoice {
        MovedVoice(int n, int p, List<Integer> trace) {
            super(n, p, trace);
        }

        @Override int bars(int x) {
            trace.add(20);
            return super.bars(x) + this.yields(x);
        }
    }

    static final class AlikeVoice extends MovedVoice {
        AlikeVoice(int n, int p, List<Integer> trace) {
            super(n, p, trace);
        }

        @Override int bids(int x) {
            trace.add(30);
            return super.bids(x) - 1;
        }

        @Override int stands(int x) {
            trace.add(31);
            return super.stands(x + 1);
        }
    }

    static final class TurnedVoice extends MovedVoice {
        TurnedVoice(int n, int p, List<Integer> trace) {
            super(n, p, trace);
        }

        @Override int yields(int x) {
            trace.add(40);
            return -super.yields(x);
        }
    }

    static final class ComesVoice extends MovedVoice {
        ComesVoice(int n, int p, List<Integer> trace) {
            super(n, p, trace);
        }

        @Override int stands(int x) {
            trace.add(50);
            return this.yields(x) - super.stands(x);
        }

        @Override int bars(int x) {
            trace.add(51);
            return super.bars(x - p);
        }
    }

    static final class SingleVoice extends LawVoice {
        SingleVoice(int n, int p, List<Integer> trace) {
            super(n, p, trace);
        }

        @Override int bids(int x) {
            trace.add(60);
            return super.bids(x) ^ 5;
        }

        @Override int yields(int x) {
            trace.add(61);
            return super.yields(x) * bids(1);
        }
    }

    int voice(int law, int act, int x) {
        if (noLaw(law) || act < 0 || act > 3) return err(BEYOND);
        trace = new ArrayList<>();
        int p = laws.get(law).price;
        LawVoice voice;
        switch (laws.get(law).kind) {
            case 0: voice = new LawVoice(law, p, trace); break;
            case 1: voice = new MovedVoice(law, p, trace); break;
            case 2: voice = new AlikeVoice(law, p, trace); break;
            case 3: voice = new TurnedVoice(law, p, trace); break;
            case 4: voice = new ComesVoice(law, p, trace); break;
            default: voice = new SingleVoice(law, p, trace);
        }
        switch (act) {
            case 0: return voice.bids(x);
            case 1: return voice.bars(x);
            case 2: return voice.yields(x);
            default: return voice.stands(x);
        }
    }

    int trace(int i) {
        return i < 0 || i >= Math.min(40, trace.size()) ? err(NONE) : trace.get(i);
    }

    // ---- sheets, images, what is told

    int sheet(int sheet, int bits, int n) {
        if (sheet < 0 || sheet > 3) return err(BEYOND);
        if (bits == 0) {
            sheets[sheet] = null;
            return 1;
        }
        if (bits != 8 && bits != 16 && bits != 32) return err(BEYOND);
        if (n < 0) return err(STATE);
        if (n > 40) return err(BEYOND);
        sheets[sheet] = new int[n];
        sheetBits[sheet] = bits;
        return 1;
    }

    int put(int sheet, int i, int v) {
        if (sheet < 0 || sheet > 3) return err(BEYOND);
        if (sheets[sheet] == null) return err(NONE);
        if (i < 0 || i >= sheets[sheet].length) return err(BEYOND);
        int away = 32 - sheetBits[sheet];
        sheets[sheet][i] = v << away >> away;
        return 1;
    }

    int move(int sheet, int i, int other, int j, int n) {
        if (sheet < 0 || sheet > 3 || other < 0 || other > 3) return err(BEYOND);
        if (sheets[sheet] == null || sheets[other] == null) return err(NONE);
        if (sheetBits[sheet] != sheetBits[other]) return err(KIND);
        if (n < 0 || i < 0 || j < 0) return err(BEYOND);
        if ((long) i + n > sheets[sheet].length || (long) j + n > sheets[other].length) return err(BEYOND);
        int[] row = sheets[sheet].clone();
        for (int m = 0; m < n; m++) sheets[other][j + m] = row[i + m];
        return n;
    }

    private static List<PlainLaw> copies(List<PlainLaw> laws) {
        List<PlainLaw> copies = new ArrayList<>();
        for (PlainLaw law : laws) copies.add(law.copy());
        return copies;
    }

    int image() {
        imageRule = rule.clone();
        imageLaws = copies(laws);
        imageTape = tape;
        imageWaits = new ArrayList<>(waits);
        return ++images;
    }

    int restore() {
        if (imageRule == null) return err(NONE);
        rule = imageRule.clone();
        laws = copies(imageLaws);
        tape = imageTape;
        waits = new ArrayList<>(imageWaits);
        return laws.size();
    }

    int tell(int v) {
        if (waits.size() == 20) return err(FULL);
        waits.add(v);
        return waits.size();
    }

    int learn(int set) {
        List<Integer> said = waits;
        waits = new ArrayList<>();
        if (noSet(set)) return err(BEYOND);
        int[] first = first(set);
        if (first == null) return err(NONE);
        for (int i = 0; i < said.size(); i++) {
            if (i > 11 || said.get(i) != first[i]) return i + 1;
        }
        return 0;
    }

    int count(int what) {
        int n = 0;
        switch (what) {
            case 0: return laws.size();
            case 1:
                for (PlainLaw law : laws) n += law.price;
                return n;
            case 2:
                for (int c : rule) n += c == 3 ? 1 : 0;
                return n;
            case 3: return tape.length();
            case 4: return waits.size();
            case 5: return Math.min(40, trace.size());
            default: return err(BEYOND);
        }
    }

    int told(int k) {
        return k < 1 || k > 5 ? err(BEYOND) : told[k];
    }
}
