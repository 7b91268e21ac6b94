import java.util.ArrayList;
import java.util.List;
import java.util.NoSuchElementException;
import java.util.function.IntBinaryOperator;

/**
 * The document a second time, with the Java library and without a thought of speed: texts as Strings, states copied
 * whole, what is best found by going through all that can be.
 */
final class PlainModel {
    private static final int NONE = -1;

    /** What is kept and undone. */
    private static final class State {
        int now;
        int purse;
        List<int[]> people = new ArrayList<>();
        List<int[]> cloths = new ArrayList<>();
        List<Integer> box = new ArrayList<>();

        State copy() {
            State s = new State();
            s.now = now;
            s.purse = purse;
            for (int[] one : people) {
                s.people.add(one.clone());
            }
            for (int[] one : cloths) {
                s.cloths.add(one.clone());
            }
            s.box.addAll(box);
            return s;
        }
    }

    private static final int HEIGHT = 0;
    private static final int PLACE = 1;
    private static final int WORN = 2;
    private static final int LENGTH = 0;
    private static final int HEM = 1;
    private static final int SEAMS = 2;

    private State s = new State();
    private String text = "";
    private List<String> almanacs = new ArrayList<>();
    private String rule = "";
    private final int[] terms = {3, 2, 1};
    private final List<State> undone = new ArrayList<>();
    private final State[] kept = new State[2];
    private final List<int[]> seen = new ArrayList<>();
    private final List<int[]> jobs = new ArrayList<>();
    private List<Integer> row = new ArrayList<>();

    private void tell(int... numbers) {
        row = new ArrayList<>();
        for (int n : numbers) {
            row.add(n);
        }
    }

    // ---- the house

    int sign(int v) {
        if (text.length() + 4 > 80) {
            return NONE;
        }
        text += "" + (char) (v >> 24 & 255) + (char) (v >> 16 & 255) + (char) (v >> 8 & 255) + (char) (v & 255);
        return text.length();
    }

    boolean end(int n) {
        if (n < 0 || n > text.length()) {
            return false;
        }
        text = text.substring(0, n);
        return true;
    }

    private String takeText() {
        String was = text;
        text = "";
        return was;
    }

    int almanac() {
        String signs = takeText();
        int places = 0;
        int digits = 0;
        for (int p = 0; p < signs.length(); p++) {
            char c = signs.charAt(p);
            if (c >= '0' && c <= '9' && digits < 26 && places < 4) {
                digits++;
            } else if (c == '/' && digits > 0) {
                digits = 0;
                places++;
            } else {
                return -1 - p;
            }
        }
        if (digits == 0) {
            return -1 - signs.length();
        }
        almanacs = new ArrayList<>(List.of(signs.split("/")));
        return almanacs.size();
    }

    /**
     * -1, or the sign at fault: the least p of which the first p + 1 signs can't begin a text (its length, if it can
     * begin one but is none). A form is a pattern of what a text of no more than so many signs may be.
     */
    private static int faultOf(String signs, String form, int most) {
        java.util.regex.Pattern pattern = java.util.regex.Pattern.compile(form);
        for (int p = 0; p < signs.length(); p++) {
            if (p == most) {
                return most;
            }
            java.util.regex.Matcher m = pattern.matcher(signs.substring(0, p + 1));
            if (!m.matches() && !m.hitEnd()) {
                return p;
            }
        }
        return pattern.matcher(signs).matches() ? NONE : signs.length();
    }

    int house() {
        String signs = takeText();
        if (signs.isEmpty()) {
            return 0;
        }
        String line = "(?:p[0-9]{1,2}@[0-3]|c[0-9]{1,2}(?:\\+[0-9])?)";
        int fault = faultOf(signs, line + "(?:;" + line + ")*", 76);
        int special = specialFaultOf(signs);
        if (special != NONE && (fault == NONE || special < fault)) {
            fault = special;
        }
        if (fault != NONE) {
            return -1 - fault;
        }
        String[] lines = signs.split(";");
        for (String one : lines) {
            if (one.charAt(0) == 'p') {
                String[] parts = one.substring(1).split("@");
                s.people.add(new int[] {Integer.parseInt(parts[0]), Integer.parseInt(parts[1]), NONE});
            } else {
                String[] parts = one.substring(1).split("\\+");
                s.cloths.add(new int[] {Integer.parseInt(parts[0]),
                    parts.length > 1 ? Integer.parseInt(parts[1]) : 0, 0});
            }
        }
        undone.clear();
        return lines.length;
    }

    /** The first line without room, or the first height of 0, in the first 76 signs. */
    private int specialFaultOf(String signs) {
        int people = s.people.size();
        int cloths = s.cloths.size();
        for (int p = 0; p < signs.length() && p < 76; p++) {
            char c = signs.charAt(p);
            if (c == 'p') {
                people++;
                if (people > 6) {
                    return p;
                }
                String rest = signs.substring(p + 1);
                if (rest.startsWith("00")) {
                    return p + 2;
                }
                boolean one = rest.startsWith("0") && !(rest.length() > 1 && Character.isDigit(rest.charAt(1)));
                boolean cut = p + 2 == 76 && signs.length() > 76;
                if (one && !cut) {
                    return p + 1;
                }
            }
            if (c == 'c') {
                cloths++;
                if (cloths > 8) {
                    return p;
                }
            }
        }
        return NONE;
    }

    int rule() {
        String signs = takeText();
        if (signs.isEmpty()) {
            rule = "";
            return 0;
        }
        int fault = ruleFaultOf(signs);
        if (fault != NONE) {
            return -1 - fault;
        }
        rule = signs;
        return 0;
    }

    private static int ruleFaultOf(String signs) {
        List<Boolean> compared = new ArrayList<>(List.of(false));
        boolean wanting = true;
        int digits = 0;
        for (int p = 0; p < signs.length(); p++) {
            if (p == 40) {
                return 40;
            }
            char c = signs.charAt(p);
            int last = compared.size() - 1;
            boolean digit = c >= '0' && c <= '9';
            if (wanting && c == '(' && compared.size() < 5) {
                compared.add(false);
            } else if (wanting && (digit || "hlwpi".indexOf(c) >= 0)) {
                wanting = false;
                digits = digit ? 1 : 3;
            } else if (!wanting && digit && digits < 3) {
                digits++;
            } else if (!wanting && c == ')' && last > 0) {
                compared.remove(last);
                digits = 3;
            } else if (!wanting && "+-*/".indexOf(c) >= 0) {
                wanting = true;
            } else if (!wanting && "<>=".indexOf(c) >= 0 && !compared.get(last)) {
                compared.set(last, true);
                wanting = true;
            } else if (!(wanting && c == '-')) {
                return p;
            }
        }
        return wanting || compared.size() > 1 ? signs.length() : NONE;
    }

    /** The value of a part of the rule: split where it binds least, the last such sign. */
    private static int valueOf(String part, int[] things) {
        for (String signs : new String[] {"<>=", "+-", "*/"}) {
            int depth = 0;
            for (int p = part.length() - 1; p > 0; p--) {
                char c = part.charAt(p);
                depth += c == ')' ? 1 : c == '(' ? -1 : 0;
                boolean joins = "<>=+-*/(".indexOf(part.charAt(p - 1)) < 0;
                if (depth == 0 && joins && signs.indexOf(c) >= 0) {
                    return joined(c, valueOf(part.substring(0, p), things), valueOf(part.substring(p + 1), things));
                }
            }
        }
        char first = part.charAt(0);
        if (first == '-') {
            return -valueOf(part.substring(1), things);
        }
        if (first == '(') {
            return valueOf(part.substring(1, part.length() - 1), things);
        }
        int thing = "hlwpi".indexOf(first);
        return thing >= 0 ? things[thing] : Integer.parseInt(part);
    }

    private static int joined(char sign, int a, int b) {
        IntBinaryOperator how = switch (sign) {
            case '<' -> (x, y) -> x < y ? 1 : 0;
            case '>' -> (x, y) -> x > y ? 1 : 0;
            case '=' -> (x, y) -> x == y ? 1 : 0;
            case '+' -> (x, y) -> x + y;
            case '-' -> (x, y) -> x - y;
            case '*' -> (x, y) -> x * y;
            default -> (x, y) -> y == 0 ? 0 : x / y;
        };
        return how.applyAsInt(a, b);
    }

    private int lawFor(int height, int person, int place, int week) {
        if (place >= almanacs.size()) {
            return 0;
        }
        String digits = almanacs.get(place);
        int light = digits.charAt(week % digits.length()) - '0';
        int value = valueOf(rule.isEmpty() ? "h*l/10" : rule, new int[] {height, light, week, place, person});
        return value < 0 ? 0 : value > 99 ? 99 : value;
    }

    private int lawOf(int person, int place, int week) {
        return lawFor(s.people.get(person)[HEIGHT], person, place, week);
    }

    private int lawIn(int person, int weeks) {
        return lawOf(person, s.people.get(person)[PLACE], s.now + weeks);
    }

    private boolean isPerson(int i) {
        return i >= 0 && i < s.people.size();
    }

    private boolean isCloth(int i) {
        return i >= 0 && i < s.cloths.size();
    }

    private static boolean within(int v, int least, int most) {
        return v >= least && v <= most;
    }

    private int allOf(int cloth) {
        return s.cloths.get(cloth)[LENGTH] + s.cloths.get(cloth)[HEM];
    }

    private int wearerOf(int cloth) {
        for (int p = 0; p < s.people.size(); p++) {
            if (s.people.get(p)[WORN] == cloth) {
                return p;
            }
        }
        return NONE;
    }

    int person(int person, int what) {
        if (!isPerson(person) || !within(what, 0, 4)) {
            throw new NoSuchElementException();
        }
        int[] one = s.people.get(person);
        if (what < 3) {
            return one[what];
        }
        int law = lawIn(person, 0);
        return what == 3 ? law : one[WORN] != NONE && s.cloths.get(one[WORN])[LENGTH] == law ? 1 : 0;
    }

    int cloth(int cloth, int what) {
        if (!isCloth(cloth) || !within(what, 0, 4)) {
            throw new NoSuchElementException();
        }
        int[] one = s.cloths.get(cloth);
        return new int[] {one[LENGTH], one[HEM], allOf(cloth), one[SEAMS], wearerOf(cloth)}[what];
    }

    int light(int place, int week) {
        if (!within(place, 0, almanacs.size() - 1) || !within(week, 0, 9999)) {
            return NONE;
        }
        String digits = almanacs.get(place);
        return digits.charAt(week % digits.length()) - '0';
    }

    int law(int person, int place, int week) {
        boolean fine = isPerson(person) && within(place, 0, 3) && within(week, 0, 9999);
        return fine ? lawOf(person, place, week) : NONE;
    }

    int set(int what, int v) {
        if (!within(what, 0, 2) || !within(v, 0, 9)) {
            return NONE;
        }
        int was = terms[what];
        terms[what] = v;
        return was;
    }

    int sheet(int kind, int n, int f, int step) {
        if (!within(kind, 0, 3) || n > 8) {
            return NONE;
        }
        if (kind < 3 && n < 0) {
            return -2;
        }
        int sum = 0;
        int entry = f;
        for (int c = 0; c < s.cloths.size(); c++) {
            int v = kind == 0 ? (byte) entry : kind == 1 ? (short) entry : entry;
            v = kind == 3 || c >= n || v < 0 ? 0 : Math.min(v, 99);
            s.cloths.get(c)[LENGTH] = v;
            sum += v;
            entry += step;
        }
        return kind == 3 ? -3 : sum;
    }

    // ---- weeks

    private void remember(State before) {
        undone.add(before);
        if (undone.size() > 12) {
            undone.remove(0);
        }
    }

    int wear(int person, int cloth) {
        State before = s.copy();
        int answer = putOn(person, cloth);
        if (answer >= NONE) {
            remember(before);
        }
        return answer;
    }

    private int putOn(int person, int cloth) {
        if (!isPerson(person) || !isCloth(cloth) && cloth != NONE) {
            return -3;
        }
        if (cloth != NONE && wearerOf(cloth) != NONE && wearerOf(cloth) != person) {
            return -2;
        }
        int was = s.people.get(person)[WORN];
        s.people.get(person)[WORN] = cloth;
        return was;
    }

    int go(int person, int place) {
        if (!isPerson(person) || !within(place, 0, 3)) {
            return NONE;
        }
        remember(s.copy());
        int was = s.people.get(person)[PLACE];
        s.people.get(person)[PLACE] = place;
        return was;
    }

    /** Makes a cloth so long: inches bought, sewing, inches that fell off. */
    private int[] makeLong(int cloth, int v) {
        int[] one = s.cloths.get(cloth);
        int all = allOf(cloth);
        if (one[LENGTH] == v) {
            return new int[] {0, 0, 0};
        }
        one[LENGTH] = v;
        if (all < v) {
            one[HEM] = 0;
            one[SEAMS]++;
            return new int[] {v - all, 3, 0};
        }
        if (all <= v + terms[0]) {
            one[HEM] = all - v;
            return new int[] {0, 1, 0};
        }
        one[HEM] = terms[0];
        int off = all - v - terms[0];
        if (s.box.size() < 20) {
            s.box.add(off);
        }
        return new int[] {0, 2, off};
    }

    private int costOf(int[] bill) {
        return bill[0] * terms[1] + bill[1] * terms[2];
    }

    private static void addTo(int[] sum, int[] more) {
        for (int k = 0; k < sum.length; k++) {
            sum[k] += more[k];
        }
    }

    private int[] passWeeks(int n) {
        int[] bill = new int[3];
        for (int k = 0; k < n; k++) {
            for (int p = 0; p < s.people.size(); p++) {
                if (s.people.get(p)[WORN] != NONE) {
                    addTo(bill, makeLong(s.people.get(p)[WORN], lawIn(p, 0)));
                }
            }
            s.now++;
        }
        return bill;
    }

    int make(int cloth, int v) {
        if (!isCloth(cloth) || !within(v, 0, 99)) {
            return NONE;
        }
        remember(s.copy());
        int[] bill = makeLong(cloth, v);
        s.purse -= costOf(bill);
        tell(bill);
        return costOf(bill);
    }

    int week() {
        return weeks(1);
    }

    int weeks(int n) {
        if (!within(n, 0, 60)) {
            return NONE;
        }
        if (n > 0) {
            remember(s.copy());
        }
        int[] bill = passWeeks(n);
        s.purse -= costOf(bill);
        tell(bill);
        return costOf(bill);
    }

    int year() {
        String signs = takeText();
        String act = "(?:k[1-9]?|w[0-9][-0-9]|g[0-9][0-3]|m[0-9]=[0-9]{1,2})";
        int fault = signs.isEmpty() ? NONE : faultOf(signs, act + "(?:;" + act + ")*", 60);
        if (fault != NONE) {
            return -1 - fault;
        }
        State before = s.copy();
        int done = 0;
        int cost = 0;
        String[] acts = signs.isEmpty() ? new String[0] : signs.split(";");
        for (String one : acts) {
            int[] bill = doAct(one);
            if (bill == null) {
                break;
            }
            cost += costOf(bill);
            done++;
        }
        s.purse -= cost;
        if (done > 0) {
            remember(before);
        }
        tell(done < acts.length ? 1 : 0, cost);
        return done;
    }

    /** Null if it can't be done. */
    private int[] doAct(String act) {
        int first = act.length() > 1 ? act.charAt(1) - '0' : 1;
        int second = act.length() > 2 ? act.charAt(2) - '0' : 0;
        if (act.charAt(0) == 'k') {
            return passWeeks(first);
        }
        if (act.charAt(0) == 'w') {
            return putOn(first, act.charAt(2) == '-' ? NONE : second) < NONE ? null : new int[3];
        }
        if (act.charAt(0) == 'g') {
            if (!isPerson(first)) {
                return null;
            }
            s.people.get(first)[PLACE] = second;
            return new int[3];
        }
        return isCloth(first) ? makeLong(first, Integer.parseInt(act.substring(3))) : null;
    }

    int undo() {
        if (undone.isEmpty()) {
            return NONE;
        }
        s = undone.remove(undone.size() - 1);
        return undone.size();
    }

    // ---- the box

    int piece(int i) {
        if (!within(i, 0, s.box.size() - 1)) {
            throw new NoSuchElementException();
        }
        return s.box.get(i);
    }

    int sell(int i, int v) {
        if (!within(i, 0, s.box.size() - 1) || !within(v, 0, 9)) {
            return NONE;
        }
        remember(s.copy());
        int price = s.box.remove(i) * v;
        s.purse += price;
        return price;
    }

    /** Null if all do not do; else how many, inches, bits. */
    private int[] bestPieces(int v) {
        int[] best = null;
        for (int bits = 1; bits < 1 << s.box.size(); bits++) {
            int sum = 0;
            for (int i = 0; i < s.box.size(); i++) {
                sum += (bits >> i & 1) * s.box.get(i);
            }
            int many = Integer.bitCount(bits);
            if (sum >= v && (best == null || many < best[0] || many == best[0] && sum < best[1])) {
                best = new int[] {many, sum, bits};
            }
        }
        return best;
    }

    int patches(int v) {
        if (!within(v, 1, 999)) {
            return NONE;
        }
        int[] best = bestPieces(v);
        if (best == null) {
            return -2;
        }
        tell(best[1] - v, best[2]);
        return best[0];
    }

    int quilt(int v) {
        if (!within(v, 1, 999)) {
            return NONE;
        }
        int[] best = bestPieces(v);
        if (best == null) {
            return -2;
        }
        remember(s.copy());
        for (int i = s.box.size() - 1; i >= 0; i--) {
            if ((best[2] >> i & 1) == 1) {
                s.box.remove(i);
            }
        }
        int cost = (best[0] - 1) * terms[2];
        s.purse -= cost;
        return cost;
    }

    // ---- weeks to come

    int ahead(int n) {
        if (!within(n, 0, 60)) {
            return NONE;
        }
        State before = s.copy();
        int[] bill = passWeeks(n);
        s = before;
        tell(bill);
        return costOf(bill);
    }

    private List<Integer> lawsOf(int person, int place, int n) {
        List<Integer> laws = new ArrayList<>();
        for (int k = 0; k < n; k++) {
            laws.add(lawOf(person, place, s.now + k));
        }
        return laws;
    }

    int longest(int person, int place, int n) {
        if (!isPerson(person) || !within(place, 0, 3) || !within(n, 1, 60)) {
            return NONE;
        }
        List<Integer> laws = lawsOf(person, place, n);
        int most = java.util.Collections.max(laws);
        int least = java.util.Collections.min(laws);
        tell(laws.indexOf(most), least, laws.indexOf(least));
        return most;
    }

    int lengths(int person, int place, int n) {
        if (!isPerson(person) || !within(place, 0, 3) || !within(n, 1, 60)) {
            return NONE;
        }
        java.util.TreeMap<Integer, Integer> often = new java.util.TreeMap<>();
        for (int law : lawsOf(person, place, n)) {
            often.merge(law, 1, Integer::sum);
        }
        int best = often.firstKey();
        for (int law : often.keySet()) {
            best = often.get(law) > often.get(best) ? law : best;
        }
        tell(best, often.get(best));
        return often.size();
    }

    int serves(int cloth, int person, int n) {
        if (!isCloth(cloth) || !isPerson(person) || !within(n, 0, 60)) {
            return NONE;
        }
        int many = 0;
        int first = NONE;
        for (int k = 0; k < n; k++) {
            int law = lawIn(person, k);
            if (within(allOf(cloth), law, law + terms[0])) {
                many++;
            } else if (first == NONE) {
                first = k;
            }
        }
        tell(first);
        return many;
    }

    int best(int person, int n) {
        if (!isPerson(person) || !within(n, 1, 60)) {
            return NONE;
        }
        int best = 0;
        int most = NONE;
        for (int all = 0; all <= 108; all++) {
            int many = 0;
            for (int k = 0; k < n; k++) {
                int law = lawIn(person, k);
                many += within(all, law, law + terms[0]) ? 1 : 0;
            }
            if (many > most) {
                most = many;
                best = all;
            }
        }
        tell(most);
        return best;
    }

    int same(int n) {
        if (!within(n, 0, 99)) {
            return NONE;
        }
        int bits = 0;
        for (int p = 0; p < s.people.size(); p++) {
            bits += lawIn(p, n) == lawIn(p, 0) ? 1 << p : 0;
        }
        return bits;
    }

    // ---- one cloth for some weeks

    int plan(int person, int n) {
        if (!isPerson(person) || !within(n, 1, 20)) {
            return NONE;
        }
        List<Integer> laws = lawsOf(person, s.people.get(person)[PLACE], n);
        // For each ALL the cheapest way to it, from each first hem: forward, week by week.
        int[] best = null;
        for (int first = 0; first <= terms[0]; first++) {
            int[][] ways = new int[109][];
            ways[laws.get(0) + first] = new int[] {(laws.get(0) + first) * terms[1], laws.get(0) + first};
            for (int k = 1; k < n; k++) {
                ways = nextWays(ways, laws.get(k - 1), laws.get(k));
            }
            for (int[] way : ways) {
                if (way != null && (best == null || isLess(way, best))) {
                    best = new int[] {way[0], way[1], first};
                }
            }
        }
        tell(best[1], best[2]);
        return best[0];
    }

    private static boolean isLess(int[] a, int[] b) {
        return a[0] < b[0] || a[0] == b[0] && a[1] < b[1];
    }

    private int[][] nextWays(int[][] ways, int length, int v) {
        int[][] next = new int[109][];
        for (int all = 0; all < ways.length; all++) {
            if (ways[all] == null) {
                continue;
            }
            if (length == v) {
                reach(next, all, ways[all], 0, 0);
            } else if (within(all, v, v + terms[0])) {
                reach(next, all, ways[all], 0, 1);
            } else {
                for (int hem = 0; hem <= terms[0]; hem++) {
                    reach(next, v + hem, ways[all], all < v ? v + hem - all : 0, all < v ? 3 : 2);
                }
            }
        }
        return next;
    }

    private void reach(int[][] next, int all, int[] from, int inches, int sewing) {
        int[] way = {from[0] + inches * terms[1] + sewing * terms[2], from[1] + inches};
        if (next[all] == null || isLess(way, next[all])) {
            next[all] = way;
        }
    }

    int plain(int person, int n, int v) {
        if (!isPerson(person) || !within(n, 1, 20) || !within(v, 0, terms[0])) {
            return NONE;
        }
        State before = s.copy();
        s.cloths.add(new int[] {lawIn(person, 0), v, 0});
        int cloth = s.cloths.size() - 1;
        int[] bill = {allOf(cloth), 0, 0};
        for (int k = 1; k < n; k++) {
            addTo(bill, makeLong(cloth, lawIn(person, k)));
        }
        s = before;
        tell(bill[0], bill[1]);
        return costOf(bill);
    }

    // ---- a family

    int idle() {
        int bits = 0;
        int without = 0;
        for (int c = 0; c < s.cloths.size(); c++) {
            bits += wearerOf(c) == NONE ? 1 << c : 0;
        }
        for (int p = 0; p < s.people.size(); p++) {
            without += s.people.get(p)[WORN] == NONE ? 1 << p : 0;
        }
        tell(Integer.bitCount(without), without);
        return bits;
    }

    private int costToMake(int cloth, int v) {
        State before = s.copy();
        int cost = costOf(makeLong(cloth, v));
        s = before;
        return cost;
    }

    int nearest(int person) {
        if (!isPerson(person)) {
            return NONE;
        }
        int best = -2;
        int least = Integer.MAX_VALUE;
        for (int c = 0; c < s.cloths.size(); c++) {
            int cost = costToMake(c, lawIn(person, 0));
            if ((wearerOf(c) == NONE || wearerOf(c) == person) && cost < least) {
                best = c;
                least = cost;
            }
        }
        if (best >= 0) {
            tell(least);
        }
        return best;
    }

    int dress(int those) {
        List<int[]> costs = new ArrayList<>();
        for (int p = 0; p < 32; p++) {
            if ((those >> p & 1) == 1 && !isPerson(p)) {
                return NONE;
            }
        }
        for (int p = 0; p < s.people.size(); p++) {
            if ((those >> p & 1) == 1) {
                int[] byCloth = new int[s.cloths.size()];
                for (int c = 0; c < byCloth.length; c++) {
                    byCloth[c] = costToMake(c, lawIn(p, 0));
                }
                costs.add(byCloth);
            }
        }
        if (costs.size() > s.cloths.size()) {
            return -2;
        }
        List<Integer> best = new ArrayList<>();
        int least = dressRest(costs, new ArrayList<>(), 0, Integer.MAX_VALUE, best);
        row = best;
        return least;
    }

    /** All rows, the least ones first; the first of the cheapest is left in best. */
    private int dressRest(List<int[]> costs, List<Integer> chosen, int cost, int least, List<Integer> best) {
        if (chosen.size() == costs.size()) {
            if (cost < least) {
                best.clear();
                best.addAll(chosen);
                return cost;
            }
            return least;
        }
        int found = least;
        for (int c = 0; c < s.cloths.size(); c++) {
            if (!chosen.contains(c)) {
                int more = costs.get(chosen.size())[c];
                chosen.add(c);
                found = dressRest(costs, chosen, cost + more, found, best);
                chosen.remove(chosen.size() - 1);
            }
        }
        return found;
    }

    int ready() {
        int best = 0;
        for (int bits = 0; bits < 1 << s.people.size(); bits++) {
            if (Integer.bitCount(bits) > Integer.bitCount(best) && canBeReady(bits, 0, 0)) {
                best = bits;
            }
        }
        tell(best);
        return Integer.bitCount(best);
    }

    private boolean canBeReady(int bits, int person, int used) {
        if (person == s.people.size()) {
            return true;
        }
        if ((bits >> person & 1) == 0) {
            return canBeReady(bits, person + 1, used);
        }
        for (int c = 0; c < s.cloths.size(); c++) {
            if ((used >> c & 1) == 0 && s.cloths.get(c)[LENGTH] == lawIn(person, 0)
                    && canBeReady(bits, person + 1, used | 1 << c)) {
                return true;
            }
        }
        return false;
    }

    // ---- travellers

    private List<Integer> wayLaws(String signs, int person) {
        List<Integer> laws = new ArrayList<>();
        for (int k = 0; k < signs.length(); k++) {
            laws.add(lawOf(person, signs.charAt(k) - '0', s.now + k));
        }
        return laws;
    }

    /** The least row of so many alls, rising, that serve all laws; null if there is none. */
    private List<Integer> rowOf(List<Integer> laws, int many) {
        List<Integer> left = new ArrayList<>(laws);
        if (left.isEmpty()) {
            return new ArrayList<>();
        }
        if (many == 0) {
            return null;
        }
        int least = java.util.Collections.min(left);
        for (int all = least; all <= least + terms[0]; all++) {
            int cloth = all;
            List<Integer> rest = new ArrayList<>(left);
            rest.removeIf(law -> within(cloth, law, law + terms[0]));
            List<Integer> others = rowOf(rest, many - 1);
            if (others != null) {
                others.add(0, all);
                return others;
            }
        }
        return null;
    }

    private int wayFault(String signs, int person) {
        if (!isPerson(person)) {
            return -100;
        }
        int fault = faultOf(signs, "[0-3]{1,26}", 26);
        return fault == NONE ? 0 : -1 - fault;
    }

    private List<Integer> pack(List<Integer> laws) {
        List<Integer> cloths = null;
        for (int many = 1; cloths == null; many++) {
            cloths = rowOf(new ArrayList<>(new java.util.TreeSet<>(laws)), many);
        }
        return cloths;
    }

    int way(int person) {
        String signs = takeText();
        int fault = wayFault(signs, person);
        if (fault != 0) {
            return fault;
        }
        row = pack(wayLaws(signs, person));
        return row.size();
    }

    int trunk(int person) {
        String signs = takeText();
        int fault = wayFault(signs, person);
        if (fault != 0) {
            return fault;
        }
        List<Integer> laws = wayLaws(signs, person);
        List<Integer> cloths = pack(laws);
        int worn = NONE;
        int changes = NONE;
        for (int law : laws) {
            if (worn == NONE || !within(worn, law, law + terms[0])) {
                for (int c = cloths.size() - 1; c >= 0; c--) {
                    worn = within(cloths.get(c), law, law + terms[0]) ? cloths.get(c) : worn;
                }
                changes++;
            }
        }
        int sum = 0;
        for (int all : cloths) {
            sum += all;
        }
        tell(changes);
        return sum;
    }

    // ---- wrong almanacs, fines

    int seen(int person, int place, int week, int v) {
        if (!isPerson(person) || !within(place, 0, 3) || !within(week, 0, 9999) || !within(v, 0, 99)
                || seen.size() == 12) {
            return NONE;
        }
        seen.add(new int[] {person, place, week, v});
        return seen.size();
    }

    int forget() {
        int was = seen.size();
        seen.clear();
        return was;
    }

    int fines(int f) {
        if (!within(f, 0, 99)) {
            return NONE;
        }
        int sum = 0;
        int bits = 0;
        for (int i = 0; i < seen.size(); i++) {
            int[] one = seen.get(i);
            int law = lawOf(one[0], one[1], one[2]);
            if (law != one[3]) {
                sum += f + f * Math.abs(law - one[3]);
                bits += 1 << i;
            }
        }
        tell(bits);
        return sum;
    }

    int lags() {
        int bits = 0;
        for (int lag = -13; lag <= 13; lag++) {
            boolean all = true;
            for (int[] one : seen) {
                all = all && one[2] + lag >= 0 && lawOf(one[0], one[1], one[2] + lag) == one[3];
            }
            bits += all ? 1 << (lag + 13) : 0;
        }
        return bits;
    }

    int heights(int person) {
        if (!isPerson(person)) {
            return NONE;
        }
        List<Integer> heights = new ArrayList<>();
        for (int height = 1; height <= 99; height++) {
            boolean all = true;
            for (int[] one : seen) {
                all = all && (one[0] != person || lawFor(height, person, one[1], one[2]) == one[3]);
            }
            if (all) {
                heights.add(height);
            }
        }
        boolean none = heights.isEmpty();
        tell(none ? NONE : heights.get(0), none ? NONE : heights.get(heights.size() - 1));
        return heights.size();
    }

    // ---- tailors

    int job(int hours, int due) {
        if (!within(hours, 1, 20) || !within(due, 0, 99)) {
            return NONE;
        }
        if (jobs.size() == 7) {
            return -2;
        }
        jobs.add(new int[] {hours, due});
        return jobs.size();
    }

    int rest() {
        int was = jobs.size();
        jobs.clear();
        return was;
    }

    private static void orders(int many, List<Integer> order, List<List<Integer>> all) {
        if (order.size() == many) {
            all.add(new ArrayList<>(order));
        }
        for (int j = 0; j < many; j++) {
            if (!order.contains(j)) {
                order.add(j);
                orders(many, order, all);
                order.remove(order.size() - 1);
            }
        }
    }

    int late() {
        List<List<Integer>> all = new ArrayList<>();
        orders(jobs.size(), new ArrayList<>(), all);
        int least = Integer.MAX_VALUE;
        for (List<Integer> order : all) {
            int time = 0;
            int late = 0;
            for (int j : order) {
                time += jobs.get(j)[0];
                late += Math.max(0, time - jobs.get(j)[1]);
            }
            if (late < least) {
                least = late;
                row = order;
            }
        }
        return least;
    }

    int timely() {
        List<List<Integer>> all = new ArrayList<>();
        orders(jobs.size(), new ArrayList<>(), all);
        int most = 0;
        for (List<Integer> order : all) {
            int time = 0;
            int bits = 0;
            for (int j : order) {
                if (time + jobs.get(j)[0] <= jobs.get(j)[1]) {
                    time += jobs.get(j)[0];
                    bits |= 1 << j;
                }
            }
            int more = Integer.bitCount(bits) - Integer.bitCount(most);
            most = more > 0 || more == 0 && bits < most ? bits : most;
        }
        tell(most);
        return Integer.bitCount(most);
    }

    int hired(int n) {
        if (!within(n, 1, 3)) {
            return NONE;
        }
        List<Integer> best = new ArrayList<>();
        int least = shareRest(n, new ArrayList<>(), Integer.MAX_VALUE, best);
        row = best;
        return least;
    }

    private int shareRest(int n, List<Integer> shares, int least, List<Integer> best) {
        if (shares.size() == jobs.size()) {
            int[] hours = new int[n];
            int end = 0;
            for (int j = 0; j < jobs.size(); j++) {
                hours[shares.get(j)] += jobs.get(j)[0];
                end = Math.max(end, hours[shares.get(j)]);
            }
            if (end < least) {
                best.clear();
                best.addAll(shares);
                return end;
            }
            return least;
        }
        int found = least;
        for (int t = 0; t < n; t++) {
            shares.add(t);
            found = shareRest(n, shares, found, best);
            shares.remove(shares.size() - 1);
        }
        return found;
    }

    // ---- years by a seed, kept

    int draw(int seed, int place, int n) {
        if (!within(place, 0, Math.min(3, almanacs.size())) || !within(n, 1, 26)) {
            return NONE;
        }
        StringBuilder digits = new StringBuilder();
        java.math.BigInteger r = java.math.BigInteger.valueOf(seed);
        java.math.BigInteger span = java.math.BigInteger.ONE.shiftLeft(32);
        for (int k = 0; k < n; k++) {
            r = r.multiply(java.math.BigInteger.valueOf(1103515245)).add(java.math.BigInteger.valueOf(12345)).mod(span);
            digits.append(r.longValue() / 65536 % 10);
        }
        if (place == almanacs.size()) {
            almanacs.add("");
        }
        almanacs.set(place, digits.toString());
        return almanacs.size();
    }

    boolean keep(int i) {
        if (!within(i, 0, 1)) {
            return false;
        }
        kept[i] = s.copy();
        return true;
    }

    boolean again(int i) {
        if (!within(i, 0, 1) || kept[i] == null || kept[i].people.size() != s.people.size()
                || kept[i].cloths.size() != s.cloths.size()) {
            return false;
        }
        s = kept[i].copy();
        undone.clear();
        return true;
    }

    int count(int what) {
        int inches = 0;
        for (int piece : s.box) {
            inches += piece;
        }
        int[] counts = {almanacs.size(), s.people.size(), s.cloths.size(), s.now, s.box.size(), inches, s.purse,
            seen.size(), jobs.size(), undone.size(), row.size(), text.length()};
        return within(what, 0, counts.length - 1) ? counts[what] : -100000;
    }

    int row(int i) {
        if (!within(i, 0, row.size() - 1)) {
            throw new NoSuchElementException();
        }
        return row.get(i);
    }
}
