import java.util.NoSuchElementException;

/** Skirts by the day's length; ../shared/DOC.md tells what each call promises. */
public final class SkirtsByTheDay {
    public static final int NONE = -1;

    private static final int MOST_SIGNS = 80;
    private static final int HOUSE_SIGNS = 76;
    private static final int RULE_SIGNS = 40;
    private static final int YEAR_SIGNS = 60;
    private static final int MOST_PLACES = 4;
    private static final int ALMANAC_WEEKS = 26;
    private static final int MOST_PEOPLE = 6;
    private static final int MOST_CLOTHS = 8;
    private static final int MOST_LENGTH = 99;
    private static final int MOST_TERM = 9;
    private static final int MOST_ALL = MOST_LENGTH + MOST_TERM;
    private static final int MOST_PIECES = 20;
    private static final int MOST_QUILT = 999;
    private static final int LAST_WEEK = 9999;
    private static final int WEEKS_AHEAD = 60;
    private static final int SAME_AHEAD = 99;
    private static final int PLAN_WEEKS = 20;
    private static final int MOST_FINE = 99;
    private static final int MOST_LAG = 13;
    private static final int MISSING_SHEET = 3;
    private static final int ANOTHER_COUNT = -100000;
    private static final int NO_TRAVELLER = -100;

    private final Text text;
    private final Almanacs almanacs;
    private final Rule rule;
    private final House house;
    private final Box box;
    private final History history;
    private final Year acts;
    private final Wants wants;
    private final Sightings sightings;
    private final Workshop workshop;
    private final Row told;

    public SkirtsByTheDay() {
        text = new Text();
        almanacs = new Almanacs();
        rule = new Rule();
        house = new House();
        box = house.box;
        history = new History();
        acts = new Year();
        wants = new Wants();
        sightings = new Sightings();
        workshop = new Workshop();
        told = new Row();
    }

    // ---- the house

    public int sign(int v) {
        return text.append(v);
    }

    public boolean end(int n) {
        return text.shorten(n);
    }

    public int almanac() {
        text.open(MOST_SIGNS);
        return closeText(almanacs.readPlaces(text));
    }

    public int house() {
        text.open(HOUSE_SIGNS);
        int lines = text.isEmpty() ? 0 : house.readLines(text);
        if (lines > 0) {
            history.clear();
        }
        return closeText(lines);
    }

    public int rule() {
        text.open(RULE_SIGNS);
        return closeText(rule.readRule(text));
    }

    public int person(int person, int what) throws NoSuchElementException {
        if (!house.hasPerson(person)) {
            throw new NoSuchElementException("there is no such one of PEOPLE");
        }
        switch (what) {
            case 0:
                return house.heights[person];
            case 1:
                return house.places[person];
            case 2:
                return house.worn[person];
            case 3:
                return lawNow(person);
            case 4:
                return isLawful(person) ? 1 : 0;
            default:
                throw new NoSuchElementException("nothing such is told of PEOPLE");
        }
    }

    public int cloth(int cloth, int what) throws NoSuchElementException {
        if (!house.hasCloth(cloth)) {
            throw new NoSuchElementException("there is no such CLOTH");
        }
        switch (what) {
            case 0:
                return house.lengths[cloth];
            case 1:
                return house.hems[cloth];
            case 2:
                return house.allOf(cloth);
            case 3:
                return house.seams[cloth];
            case 4:
                return house.wearerOf(cloth);
            default:
                throw new NoSuchElementException("nothing such is told of CLOTHS");
        }
    }

    public int light(int place, int week) {
        return isWeek(week) ? almanacs.lightAt(place, week) : NONE;
    }

    public int law(int person, int place, int week) {
        if (!house.hasPerson(person) || !isPlace(place) || !isWeek(week)) {
            return NONE;
        }
        return lawAt(person, place, week);
    }

    public int set(int what, int v) {
        if (what < 0 || what >= House.TERMS || v < 0 || v > MOST_TERM) {
            return NONE;
        }
        int was = house.terms[what];
        house.terms[what] = v;
        return was;
    }

    public int sheet(int kind, int n, int f, int step) {
        if (kind < 0 || kind > MISSING_SHEET || n > MOST_CLOTHS) {
            return NONE;
        }
        if (kind != MISSING_SHEET && n < 0) {
            return -2;
        }
        int entries = kind == MISSING_SHEET ? 0 : n;
        int sum = 0;
        for (int c = 0; c < house.cloths; c++) {
            house.lengths[c] = c < entries ? lengthOf(kind, f + c * step) : 0;
            sum += house.lengths[c];
        }
        return kind == MISSING_SHEET ? -3 : sum;
    }

    // ---- weeks

    public int wear(int person, int cloth) {
        int fault = house.wearFault(person, cloth);
        if (fault != 0) {
            return fault;
        }
        remember();
        int was = house.worn[person];
        house.worn[person] = cloth;
        return was;
    }

    public int go(int person, int place) {
        if (!house.hasPerson(person) || !isPlace(place)) {
            return NONE;
        }
        remember();
        int was = house.places[person];
        house.places[person] = place;
        return was;
    }

    public int make(int cloth, int v) {
        if (!house.hasCloth(cloth) || !isLength(v)) {
            return NONE;
        }
        remember();
        house.startBill();
        house.tailor(cloth, v);
        tellBill();
        return house.payBill();
    }

    public int week() {
        return goThrough(1);
    }

    public int weeks(int n) {
        return n < 0 || n > WEEKS_AHEAD ? NONE : goThrough(n);
    }

    public int year() {
        text.open(YEAR_SIGNS);
        int toDo = closeText(text.isEmpty() ? 0 : acts.readActs(text));
        if (toDo < 0) {
            return toDo;
        }
        history.mark(house);
        house.startBill();
        int done = 0;
        while (done < toDo && doAct(acts.kinds[done], acts.firsts[done], acts.seconds[done])) {
            done++;
        }
        // Marked first and committed last: a year of which nothing was done must not push out the oldest.
        if (done > 0) {
            history.commit();
        }
        told.tell(done < toDo ? 1 : 0, house.payBill());
        return done;
    }

    public int undo() {
        if (history.size < 1) {
            return NONE;
        }
        history.takeBack();
        history.bringBack(house);
        return history.size;
    }

    // ---- the box

    public int piece(int i) throws NoSuchElementException {
        if (!box.has(i)) {
            throw new NoSuchElementException("there is no such piece in THE BOX");
        }
        return box.inches[i];
    }

    public int sell(int i, int v) {
        if (!box.has(i) || v < 0 || v > MOST_TERM) {
            return NONE;
        }
        remember();
        int price = box.inches[i] * v;
        box.takeOut(1 << i);
        house.purse += price;
        return price;
    }

    public int patches(int v) {
        int pieces = piecesFor(v);
        if (pieces > 0) {
            told.tell(box.quiltInches - v, box.quiltBits);
        }
        return pieces;
    }

    public int quilt(int v) {
        int pieces = piecesFor(v);
        if (pieces < 1) {
            return pieces;
        }
        remember();
        house.startBill();
        house.sewing = pieces - 1;
        box.takeOut(box.quiltBits);
        return house.payBill();
    }

    // ---- weeks to come

    public int ahead(int n) {
        if (n < 0 || n > WEEKS_AHEAD) {
            return NONE;
        }
        history.mark(house);
        house.startBill();
        passWeeks(n);
        history.bringBack(house);
        tellBill();
        return house.billCost();
    }

    public int longest(int person, int place, int n) {
        if (!canLookAhead(person, place, n)) {
            return NONE;
        }
        lookAhead(person, place, n);
        int most = wants.firstLongest();
        int least = wants.firstShortest();
        told.tell(most, wants.laws[least], least);
        return wants.laws[most];
    }

    public int lengths(int person, int place, int n) {
        if (!canLookAhead(person, place, n)) {
            return NONE;
        }
        lookAhead(person, place, n);
        wants.tallyLaws(0);
        int most = wants.firstMostTallied();
        told.tell(most, wants.tally[most]);
        return wants.countTallied();
    }

    public int serves(int cloth, int person, int n) {
        if (!house.hasCloth(cloth) || !house.hasPerson(person) || n < 0 || n > WEEKS_AHEAD) {
            return NONE;
        }
        lookAhead(person, house.places[person], n);
        int all = house.allOf(cloth);
        told.tell(wants.firstUnserved(all, house.mostHem()));
        return wants.countServed(all, house.mostHem());
    }

    public int best(int person, int n) {
        if (!house.hasPerson(person) || n < 1 || n > WEEKS_AHEAD) {
            return NONE;
        }
        lookAhead(person, house.places[person], n);
        wants.tallyLaws(house.mostHem());
        int all = wants.firstMostTallied();
        told.tell(wants.tally[all]);
        return all;
    }

    public int same(int n) {
        if (n < 0 || n > SAME_AHEAD) {
            return NONE;
        }
        int bits = 0;
        for (int p = 0; p < house.people; p++) {
            if (lawAt(p, house.places[p], house.now + n) == lawNow(p)) {
                bits |= 1 << p;
            }
        }
        return bits;
    }

    // ---- one cloth for some weeks

    public int plan(int person, int n) {
        if (!house.hasPerson(person) || n < 1 || n > PLAN_WEEKS) {
            return NONE;
        }
        lookAhead(person, house.places[person], n);
        int cost = wants.planCheapest(house);
        told.tell(wants.planBought, wants.planHem);
        return cost;
    }

    public int plain(int person, int n, int v) {
        if (!house.hasPerson(person) || n < 1 || n > PLAN_WEEKS || v < 0 || v > house.mostHem()) {
            return NONE;
        }
        lookAhead(person, house.places[person], n);
        house.startBill();
        wants.billPlain(house, v);
        told.tell(house.bought, house.sewing);
        return house.billCost();
    }

    // ---- a family

    public int idle() {
        int worn = 0;
        int without = 0;
        for (int p = 0; p < house.people; p++) {
            if (house.worn[p] == NONE) {
                without |= 1 << p;
            } else {
                worn |= 1 << house.worn[p];
            }
        }
        told.tell(Integer.bitCount(without), without);
        return ((1 << house.cloths) - 1) & ~worn;
    }

    public int nearest(int person) {
        if (!house.hasPerson(person)) {
            return NONE;
        }
        int law = lawNow(person);
        int found = -2;
        int least = 0;
        for (int c = 0; c < house.cloths; c++) {
            int wearer = house.wearerOf(c);
            int cost = house.costOf(c, law);
            if ((wearer == NONE || wearer == person) && (found < 0 || cost < least)) {
                found = c;
                least = cost;
            }
        }
        if (found >= 0) {
            told.tell(least);
        }
        return found;
    }

    public int dress(int those) {
        if (those < 0 || those >> house.people != 0) {
            return NONE;
        }
        if (Integer.bitCount(those) > house.cloths) {
            return -2;
        }
        wants.clear();
        for (int p = 0; p < house.people; p++) {
            if ((those >> p & 1) == 1) {
                wants.add(lawNow(p));
            }
        }
        int cost = wants.dressCheapest(house);
        told.tellAll(wants.chosen, wants.size);
        return cost;
    }

    public int ready() {
        int used = 0;
        int who = 0;
        for (int p = 0; p < house.people; p++) {
            int cloth = house.firstAsLong(lawNow(p), used);
            if (cloth != NONE) {
                used |= 1 << cloth;
                who |= 1 << p;
            }
        }
        told.tell(who);
        return Integer.bitCount(who);
    }

    // ---- travellers

    public int way(int person) {
        int fault = readWay(person);
        if (fault != 0) {
            return fault;
        }
        int cloths = wants.packFewest(house.mostHem());
        told.tellAll(wants.chosen, cloths);
        return cloths;
    }

    public int trunk(int person) {
        int fault = readWay(person);
        if (fault != 0) {
            return fault;
        }
        int cloths = wants.packFewest(house.mostHem());
        int inches = 0;
        for (int i = 0; i < cloths; i++) {
            inches += wants.chosen[i];
        }
        told.tell(wants.countChanges(cloths, house.mostHem()));
        return inches;
    }

    // ---- wrong almanacs, fines

    public int seen(int person, int place, int week, int v) {
        if (!house.hasPerson(person) || !isPlace(place) || !isWeek(week) || !isLength(v)) {
            return NONE;
        }
        return sightings.add(person, place, week, v);
    }

    public int forget() {
        int was = sightings.size;
        sightings.size = 0;
        return was;
    }

    public int fines(int f) {
        if (f < 0 || f > MOST_FINE) {
            return NONE;
        }
        int sum = 0;
        int off = 0;
        for (int i = 0; i < sightings.size; i++) {
            int inches = Math.abs(sightings.inches[i] - lawSeen(i, 0));
            if (inches != 0) {
                sum += f * (inches + 1);
                off |= 1 << i;
            }
        }
        told.tell(off);
        return sum;
    }

    public int lags() {
        int bits = 0;
        for (int lag = -MOST_LAG; lag <= MOST_LAG; lag++) {
            if (lagExplains(lag)) {
                bits |= 1 << (lag + MOST_LAG);
            }
        }
        return bits;
    }

    public int heights(int person) {
        if (!house.hasPerson(person)) {
            return NONE;
        }
        int many = 0;
        int least = NONE;
        int greatest = NONE;
        for (int height = 1; height <= MOST_LENGTH; height++) {
            if (heightExplains(person, height)) {
                many++;
                least = least == NONE ? height : least;
                greatest = height;
            }
        }
        told.tell(least, greatest);
        return many;
    }

    // ---- tailors

    public int job(int hours, int due) {
        return workshop.take(hours, due);
    }

    public int rest() {
        int was = workshop.jobs;
        workshop.jobs = 0;
        return was;
    }

    public int late() {
        int sum = workshop.orderLeastLate();
        told.tellAll(workshop.answer, workshop.jobs);
        return sum;
    }

    public int timely() {
        int bits = workshop.mostInTime();
        told.tell(bits);
        return Integer.bitCount(bits);
    }

    public int hired(int n) {
        if (n < 1 || n > Workshop.MOST_TAILORS) {
            return NONE;
        }
        int hours = workshop.shareAmong(n);
        told.tellAll(workshop.answer, workshop.jobs);
        return hours;
    }

    // ---- years by a seed

    public int draw(int seed, int place, int n) {
        return almanacs.drawOne(seed, place, n);
    }

    // ---- kept

    public boolean keep(int i) {
        return history.keepAs(i, house);
    }

    public boolean again(int i) {
        if (!history.hasKept(i, house)) {
            return false;
        }
        history.bringBackKept(i, house);
        history.clear();
        return true;
    }

    public int count(int what) {
        switch (what) {
            case 0:
                return almanacs.places;
            case 1:
                return house.people;
            case 2:
                return house.cloths;
            case 3:
                return house.now;
            case 4:
                return box.pieces;
            case 5:
                return box.sum();
            case 6:
                return house.purse;
            case 7:
                return sightings.size;
            case 8:
                return workshop.jobs;
            case 9:
                return history.size;
            case 10:
                return told.size;
            case 11:
                return text.length;
            default:
                return ANOTHER_COUNT;
        }
    }

    public int row(int i) throws NoSuchElementException {
        if (i < 0 || i >= told.size) {
            throw new NoSuchElementException("the ROW has no such number");
        }
        return told.numbers[i];
    }

    // ---- what the calls share

    private static boolean isPlace(int place) {
        return place >= 0 && place < MOST_PLACES;
    }

    private static boolean isWeek(int week) {
        return week >= 0 && week <= LAST_WEEK;
    }

    private static boolean isLength(int v) {
        return v >= 0 && v <= MOST_LENGTH;
    }

    private static int putToLength(int v) {
        return Math.max(0, Math.min(MOST_LENGTH, v));
    }

    private static int lengthOf(int kind, int entry) {
        if (kind == 0) {
            return putToLength((byte) entry);
        }
        return putToLength(kind == 1 ? (short) entry : entry);
    }

    /** Empties THE TEXT, which a call that reads it does, refused or not. */
    private int closeText(int read) {
        int answer = read < 0 ? -1 - text.at : read;
        text.length = 0;
        return answer;
    }

    private int lawAt(int person, int place, int week) {
        return lawFor(house.heights[person], person, place, week);
    }

    private int lawFor(int height, int person, int place, int week) {
        int light = almanacs.lightAt(place, week);
        if (light == NONE) {
            return 0;
        }
        return putToLength(rule.valueFor(height, light, week, place, person));
    }

    private int lawNow(int person) {
        return lawFor(house.heights[person], person, house.places[person], house.now);
    }

    private boolean isLawful(int person) {
        int cloth = house.worn[person];
        return house.hasCloth(cloth) && house.lengths[cloth] == lawNow(person);
    }

    private void remember() {
        history.mark(house);
        history.commit();
    }

    private int goThrough(int n) {
        history.mark(house);
        if (n > 0) {
            history.commit();
        }
        house.startBill();
        passWeeks(n);
        tellBill();
        return house.payBill();
    }

    private void passWeeks(int n) {
        for (int k = 0; k < n; k++) {
            for (int p = 0; p < house.people; p++) {
                if (house.hasCloth(house.worn[p])) {
                    house.tailor(house.worn[p], lawNow(p));
                }
            }
            house.now++;
        }
    }

    private boolean doAct(int kind, int first, int second) {
        switch (kind) {
            case 'k':
                passWeeks(first);
                return true;
            case 'w':
                if (house.wearFault(first, second) != 0) {
                    return false;
                }
                house.worn[first] = second;
                return true;
            case 'g':
                if (!house.hasPerson(first)) {
                    return false;
                }
                house.places[first] = second;
                return true;
            default:
                if (!house.hasCloth(first)) {
                    return false;
                }
                house.tailor(first, second);
                return true;
        }
    }

    private void tellBill() {
        told.tell(house.bought, house.sewing, house.fallen);
    }

    private int piecesFor(int v) {
        return v < 1 || v > MOST_QUILT ? NONE : box.chooseFewest(v);
    }

    private boolean canLookAhead(int person, int place, int n) {
        return house.hasPerson(person) && isPlace(place) && n >= 1 && n <= WEEKS_AHEAD;
    }

    private void lookAhead(int person, int place, int n) {
        wants.clear();
        for (int k = 0; k < n; k++) {
            wants.add(lawAt(person, place, house.now + k));
        }
    }

    /** 0 if the way could be read; else what the call answers. */
    private int readWay(int person) {
        text.open(MOST_SIGNS);
        if (!house.hasPerson(person)) {
            text.length = 0;
            return NO_TRAVELLER;
        }
        wants.clear();
        for (int k = 0; k < ALMANAC_WEEKS; k++) {
            int place = text.takeDigit(0, MOST_PLACES - 1);
            if (place == NONE) {
                break;
            }
            wants.add(lawAt(person, place, house.now + k));
        }
        return closeText(wants.size > 0 && text.isAtEnd() ? 0 : NONE);
    }

    private int lawSeen(int i, int lag) {
        return lawAt(sightings.persons[i], sightings.places[i], sightings.weeks[i] + lag);
    }

    private boolean lagExplains(int lag) {
        for (int i = 0; i < sightings.size; i++) {
            if (sightings.weeks[i] + lag < 0 || lawSeen(i, lag) != sightings.inches[i]) {
                return false;
            }
        }
        return true;
    }

    private boolean heightExplains(int person, int height) {
        for (int i = 0; i < sightings.size; i++) {
            if (sightings.persons[i] == person
                    && lawFor(height, person, sightings.places[i], sightings.weeks[i]) != sightings.inches[i]) {
                return false;
            }
        }
        return true;
    }

    /** THE TEXT, and the place in it up to which it was read. */
    private static final class Text {
        final char[] signs = new char[MOST_SIGNS];
        int length;
        int limit;
        int at;

        int append(int v) {
            if (length > MOST_SIGNS - 4) {
                return NONE;
            }
            for (int shift = 24; shift >= 0; shift -= 8) {
                signs[length] = (char) (v >>> shift & 255);
                length++;
            }
            return length;
        }

        boolean shorten(int n) {
            if (n < 0 || n > length) {
                return false;
            }
            length = n;
            return true;
        }

        boolean isEmpty() {
            return length == 0;
        }

        /** Reading stops behind so many signs: what would stand there is at fault, whatever it is. */
        void open(int most) {
            at = 0;
            limit = Math.min(length, most);
        }

        /** What was read so far could go on, had it more room. */
        boolean isCutHere() {
            return at == limit && limit < length;
        }

        boolean isAtEnd() {
            return at == length;
        }

        int next() {
            return at < limit ? signs[at] : NONE;
        }

        boolean take(char sign) {
            if (next() != sign) {
                return false;
            }
            at++;
            return true;
        }

        int takeDigit(int least, int most) {
            int sign = next();
            if (sign < '0' + least || sign > '0' + most) {
                return NONE;
            }
            at++;
            return sign - '0';
        }

        int takeNumber(int mostDigits) {
            int number = takeDigit(0, 9);
            for (int k = 1; k < mostDigits && number != NONE; k++) {
                int digit = takeDigit(0, 9);
                if (digit == NONE) {
                    return number;
                }
                number = number * 10 + digit;
            }
            return number;
        }
    }

    /** LIGHT of PLACES; a text is read into drafts, so that a wrong one changes nothing. */
    private static final class Almanacs {
        final int[] lights = new int[MOST_PLACES * ALMANAC_WEEKS];
        final int[] weeks = new int[MOST_PLACES];
        final int[] draftLights = new int[MOST_PLACES * ALMANAC_WEEKS];
        final int[] draftWeeks = new int[MOST_PLACES];
        int places;

        int lightAt(int place, int week) {
            if (place < 0 || place >= places || week < 0 || weeks[place] < 1) {
                return NONE;
            }
            return lights[place * ALMANAC_WEEKS + week % weeks[place]];
        }

        int readPlaces(Text text) {
            for (int place = 0; place < MOST_PLACES; place++) {
                draftWeeks[place] = readDigits(text, place * ALMANAC_WEEKS);
                if (draftWeeks[place] < 1) {
                    return NONE;
                }
                if (text.isAtEnd()) {
                    adopt(place + 1);
                    return places;
                }
                if (!text.take('/')) {
                    return NONE;
                }
            }
            return NONE;
        }

        int readDigits(Text text, int from) {
            for (int k = 0; k < ALMANAC_WEEKS; k++) {
                int digit = text.takeDigit(0, 9);
                if (digit == NONE) {
                    return k;
                }
                draftLights[from + k] = digit;
            }
            return ALMANAC_WEEKS;
        }

        void adopt(int many) {
            System.arraycopy(draftLights, 0, lights, 0, many * ALMANAC_WEEKS);
            System.arraycopy(draftWeeks, 0, weeks, 0, many);
            places = many;
        }

        int drawOne(int seed, int place, int n) {
            if (place < 0 || place > places || place >= MOST_PLACES || n < 1 || n > ALMANAC_WEEKS) {
                return NONE;
            }
            int r = seed;
            for (int k = 0; k < n; k++) {
                r = r * 1103515245 + 12345;
                lights[place * ALMANAC_WEEKS + k] = (r >>> 16) % 10;
            }
            weeks[place] = n;
            places = Math.max(places, place + 1);
            return places;
        }
    }

    /**
     * THE RULE as a row of parts, each behind those it is made of: valued from the first to the last, without a
     * stack. It is read into a draft of the same form, so that a wrong one changes nothing.
     */
    private static final class Rule {
        static final int MOST_DEPTH = 4;
        static final char NUMBER = '0';
        static final char NEGATED = '~';

        final int[] kinds = new int[RULE_SIGNS];
        final int[] lefts = new int[RULE_SIGNS];
        final int[] rights = new int[RULE_SIGNS];
        final int[] values = new int[RULE_SIGNS];
        int size;

        final int[] draftKinds = new int[RULE_SIGNS];
        final int[] draftLefts = new int[RULE_SIGNS];
        final int[] draftRights = new int[RULE_SIGNS];
        int drafted;

        int readRule(Text text) {
            drafted = 0;
            if (!text.isEmpty() && (readExpression(text, 0) == NONE || !text.isAtEnd())) {
                return NONE;
            }
            System.arraycopy(draftKinds, 0, kinds, 0, drafted);
            System.arraycopy(draftLefts, 0, lefts, 0, drafted);
            System.arraycopy(draftRights, 0, rights, 0, drafted);
            size = drafted;
            return 0;
        }

        int addPart(int kind, int left, int right) {
            // Each part stands for a sign at least, so that there is always room.
            if (drafted >= RULE_SIGNS) {
                return NONE;
            }
            draftKinds[drafted] = kind;
            draftLefts[drafted] = left;
            draftRights[drafted] = right;
            drafted++;
            return drafted - 1;
        }

        int readExpression(Text text, int depth) {
            int left = readSum(text, depth);
            int sign = text.next();
            if (left == NONE || sign != '<' && sign != '>' && sign != '=') {
                return left;
            }
            text.at++;
            int right = readSum(text, depth);
            return right == NONE ? NONE : addPart(sign, left, right);
        }

        int readSum(Text text, int depth) {
            int left = readProduct(text, depth);
            for (int k = 0; k < RULE_SIGNS && left != NONE; k++) {
                int sign = text.next();
                if (sign != '+' && sign != '-') {
                    return left;
                }
                text.at++;
                int right = readProduct(text, depth);
                left = right == NONE ? NONE : addPart(sign, left, right);
            }
            return left;
        }

        int readProduct(Text text, int depth) {
            int left = readSigned(text, depth);
            for (int k = 0; k < RULE_SIGNS && left != NONE; k++) {
                int sign = text.next();
                if (sign != '*' && sign != '/') {
                    return left;
                }
                text.at++;
                int right = readSigned(text, depth);
                left = right == NONE ? NONE : addPart(sign, left, right);
            }
            return left;
        }

        int readSigned(Text text, int depth) {
            boolean negated = false;
            for (int k = 0; k < RULE_SIGNS && text.take('-'); k++) {
                negated = !negated;
            }
            int thing = readThing(text, depth);
            return negated && thing != NONE ? addPart(NEGATED, thing, thing) : thing;
        }

        int readThing(Text text, int depth) {
            int sign = text.next();
            if (sign >= '0' && sign <= '9') {
                return addPart(NUMBER, text.takeNumber(3), 0);
            }
            if (sign == '(') {
                return readInner(text, depth + 1);
            }
            if (sign != 'h' && sign != 'l' && sign != 'w' && sign != 'p' && sign != 'i') {
                return NONE;
            }
            text.at++;
            return addPart(sign, 0, 0);
        }

        int readInner(Text text, int depth) {
            if (depth > MOST_DEPTH) {
                return NONE;
            }
            text.at++;
            int inner = readExpression(text, depth);
            return inner != NONE && text.take(')') ? inner : NONE;
        }

        int valueFor(int height, int light, int week, int place, int person) {
            if (size < 1) {
                return height * light / 10;
            }
            for (int k = 0; k < size; k++) {
                switch (kinds[k]) {
                    case NUMBER:
                        values[k] = lefts[k];
                        break;
                    case 'h':
                        values[k] = height;
                        break;
                    case 'l':
                        values[k] = light;
                        break;
                    case 'w':
                        values[k] = week;
                        break;
                    case 'p':
                        values[k] = place;
                        break;
                    case 'i':
                        values[k] = person;
                        break;
                    default:
                        values[k] = joined(kinds[k], values[lefts[k]], values[rights[k]]);
                        break;
                }
            }
            return values[size - 1];
        }

        static int joined(int kind, int left, int right) {
            switch (kind) {
                case '+':
                    return left + right;
                case '-':
                    return left - right;
                case '*':
                    return left * right;
                case '/':
                    return right == 0 ? 0 : left / right;
                case '<':
                    return left < right ? 1 : 0;
                case '>':
                    return left > right ? 1 : 0;
                case '=':
                    return left == right ? 1 : 0;
                default:
                    return -left;
            }
        }
    }

    /** PEOPLE, CLOTHS, MOST HEM and PRICES, THE PURSE, NOW; and what the call that is on has used up. */
    private static final class House {
        static final int TERMS = 3;
        static final int MOMENT = 2 * MOST_PEOPLE + 3 * MOST_CLOTHS + MOST_PIECES + 3;

        int people;
        int cloths;
        final int[] heights = new int[MOST_PEOPLE];
        final int[] places = new int[MOST_PEOPLE];
        final int[] worn = new int[MOST_PEOPLE];
        final int[] lengths = new int[MOST_CLOTHS];
        final int[] hems = new int[MOST_CLOTHS];
        final int[] seams = new int[MOST_CLOTHS];
        final int[] terms = new int[TERMS];
        final Box box = new Box();
        int purse;
        int now;
        int bought;
        int sewing;
        int fallen;

        House() {
            terms[0] = 3;
            terms[1] = 2;
            terms[2] = 1;
        }

        boolean hasPerson(int person) {
            return person >= 0 && person < people;
        }

        boolean hasCloth(int cloth) {
            return cloth >= 0 && cloth < cloths;
        }

        int mostHem() {
            return terms[0];
        }

        int allOf(int cloth) {
            return lengths[cloth] + hems[cloth];
        }

        int wearerOf(int cloth) {
            for (int p = 0; p < people; p++) {
                if (worn[p] == cloth) {
                    return p;
                }
            }
            return NONE;
        }

        int wearFault(int person, int cloth) {
            if (!hasPerson(person) || cloth != NONE && !hasCloth(cloth)) {
                return -3;
            }
            int wearer = cloth == NONE ? NONE : wearerOf(cloth);
            return wearer == NONE || wearer == person ? 0 : -2;
        }

        int firstAsLong(int length, int butThose) {
            for (int c = 0; c < cloths; c++) {
                if ((butThose >> c & 1) == 0 && lengths[c] == length) {
                    return c;
                }
            }
            return NONE;
        }

        int sewingFor(int length, int all, int v) {
            if (length == v) {
                return 0;
            }
            if (all < v) {
                return 3;
            }
            return all <= v + mostHem() ? 1 : 2;
        }

        int priceOf(int inches, int sewn) {
            return inches * terms[1] + sewn * terms[2];
        }

        int costOf(int cloth, int v) {
            int all = allOf(cloth);
            return priceOf(Math.max(0, v - all), sewingFor(lengths[cloth], all, v));
        }

        void startBill() {
            bought = 0;
            sewing = 0;
            fallen = 0;
        }

        int billCost() {
            return priceOf(bought, sewing);
        }

        int payBill() {
            purse -= billCost();
            return billCost();
        }

        void tailor(int cloth, int v) {
            int all = allOf(cloth);
            int sewn = sewingFor(lengths[cloth], all, v);
            if (sewn == 0) {
                return;
            }
            if (sewn == 3) {
                bought += v - all;
                seams[cloth]++;
                all = v;
            }
            if (sewn == 2) {
                int off = all - v - mostHem();
                fallen += off;
                box.putIn(off);
                all -= off;
            }
            sewing += sewn;
            lengths[cloth] = v;
            hems[cloth] = all - v;
        }

        /** LINES are written behind what there is, and count from the last one on alone. */
        int readLines(Text text) {
            int p = people;
            int c = cloths;
            for (int line = 1; line <= MOST_PEOPLE + MOST_CLOTHS; line++) {
                boolean fine = false;
                if (p < MOST_PEOPLE && text.take('p')) {
                    fine = readPerson(text, p);
                    p++;
                } else if (c < MOST_CLOTHS && text.take('c')) {
                    fine = readCloth(text, c);
                    c++;
                }
                if (fine && text.isAtEnd()) {
                    people = p;
                    cloths = c;
                    return line;
                }
                if (!fine || !text.take(';')) {
                    return NONE;
                }
            }
            return NONE;
        }

        boolean readPerson(Text text, int p) {
            int from = text.at;
            heights[p] = text.takeNumber(2);
            if (heights[p] == 0 && !(text.at == from + 1 && text.isCutHere())) {
                text.at--;
                return false;
            }
            if (heights[p] == NONE || !text.take('@')) {
                return false;
            }
            places[p] = text.takeDigit(0, MOST_PLACES - 1);
            worn[p] = NONE;
            return places[p] != NONE;
        }

        boolean readCloth(Text text, int c) {
            lengths[c] = text.takeNumber(2);
            if (lengths[c] == NONE) {
                return false;
            }
            hems[c] = text.take('+') ? text.takeDigit(0, MOST_TERM) : 0;
            seams[c] = 0;
            return hems[c] != NONE;
        }

        void writeTo(int[] moment) {
            if (moment.length < MOMENT) {
                return;
            }
            System.arraycopy(places, 0, moment, 0, MOST_PEOPLE);
            System.arraycopy(worn, 0, moment, MOST_PEOPLE, MOST_PEOPLE);
            int at = 2 * MOST_PEOPLE;
            System.arraycopy(lengths, 0, moment, at, MOST_CLOTHS);
            System.arraycopy(hems, 0, moment, at + MOST_CLOTHS, MOST_CLOTHS);
            System.arraycopy(seams, 0, moment, at + 2 * MOST_CLOTHS, MOST_CLOTHS);
            at += 3 * MOST_CLOTHS;
            System.arraycopy(box.inches, 0, moment, at, MOST_PIECES);
            at += MOST_PIECES;
            moment[at] = box.pieces;
            moment[at + 1] = purse;
            moment[at + 2] = now;
        }

        void returnTo(int[] moment) {
            if (moment.length < MOMENT) {
                return;
            }
            System.arraycopy(moment, 0, places, 0, MOST_PEOPLE);
            System.arraycopy(moment, MOST_PEOPLE, worn, 0, MOST_PEOPLE);
            int at = 2 * MOST_PEOPLE;
            System.arraycopy(moment, at, lengths, 0, MOST_CLOTHS);
            System.arraycopy(moment, at + MOST_CLOTHS, hems, 0, MOST_CLOTHS);
            System.arraycopy(moment, at + 2 * MOST_CLOTHS, seams, 0, MOST_CLOTHS);
            at += 3 * MOST_CLOTHS;
            System.arraycopy(moment, at, box.inches, 0, MOST_PIECES);
            at += MOST_PIECES;
            box.pieces = moment[at];
            purse = moment[at + 1];
            now = moment[at + 2];
        }
    }

    /** THE BOX, and the pieces chosen last for a quilt. */
    private static final class Box {
        // A choice of the fewest pieces is less than enough without any one of them: it goes over by less than one.
        static final int SUMS = MOST_QUILT + MOST_ALL;

        final int[] inches = new int[MOST_PIECES];
        // For each sum, of the first 0, 1, .. pieces: as bits, how many of them can make it.
        final int[] reached = new int[(MOST_PIECES + 1) * SUMS];
        int pieces;
        int quiltBits;
        int quiltInches;

        boolean has(int i) {
            return i >= 0 && i < pieces;
        }

        int sum() {
            int sum = 0;
            for (int i = 0; i < pieces; i++) {
                sum += inches[i];
            }
            return sum;
        }

        void putIn(int piece) {
            if (pieces < MOST_PIECES) {
                inches[pieces] = piece;
                pieces++;
            }
        }

        void takeOut(int bits) {
            int left = 0;
            for (int i = 0; i < pieces; i++) {
                if ((bits >> i & 1) == 0) {
                    inches[left] = inches[i];
                    left++;
                }
            }
            pieces = left;
        }

        int chooseFewest(int v) {
            int total = sum();
            if (total < v) {
                return -2;
            }
            int last = Math.min(total, v + MOST_ALL - 1);
            reachSums(last);
            int fewest = 0;
            for (int s = v; s <= last; s++) {
                int ways = reached[pieces * SUMS + s];
                int low = ways & -ways;
                if (low != 0 && (fewest == 0 || low < fewest)) {
                    fewest = low;
                    quiltInches = s;
                }
            }
            int many = Integer.bitCount(fewest - 1);
            quiltBits = leastBits(many, quiltInches);
            return many;
        }

        void reachSums(int last) {
            for (int s = 0; s <= last; s++) {
                reached[s] = s == 0 ? 1 : 0;
            }
            for (int i = 0; i < pieces; i++) {
                int from = i * SUMS;
                for (int s = 0; s <= last; s++) {
                    int ways = reached[from + s];
                    if (s >= inches[i]) {
                        ways |= reached[from + s - inches[i]] << 1;
                    }
                    reached[from + SUMS + s] = ways;
                }
            }
        }

        /** The last pieces are left out wherever those ahead can do without: theirs are the highest bits. */
        int leastBits(int many, int sum) {
            int bits = 0;
            int wanted = many;
            int left = sum;
            for (int i = pieces - 1; i >= 0; i--) {
                if ((reached[i * SUMS + left] >> wanted & 1) == 0 && left >= inches[i]) {
                    bits |= 1 << i;
                    wanted--;
                    left -= inches[i];
                }
            }
            return bits;
        }
    }

    /** What can be undone, and what was kept. */
    private static final class History {
        static final int MOST_UNDONE = 12;
        static final int SLOTS = MOST_UNDONE + 1;
        static final int MOST_KEPT = 2;

        // One slot is always free: a moment is marked there ahead of its call, and counts if the call is done.
        final int[][] moments = new int[SLOTS][House.MOMENT];
        final int[][] kept = new int[MOST_KEPT][House.MOMENT];
        final int[] keptPeople = new int[MOST_KEPT];
        final int[] keptCloths = new int[MOST_KEPT];
        int first;
        int size;

        History() {
            for (int i = 0; i < MOST_KEPT; i++) {
                keptPeople[i] = NONE;
            }
        }

        int freeSlot() {
            return (first + size) % SLOTS;
        }

        void mark(House house) {
            house.writeTo(moments[freeSlot()]);
        }

        void commit() {
            if (size < MOST_UNDONE) {
                size++;
            } else {
                first = (first + 1) % SLOTS;
            }
        }

        void takeBack() {
            size--;
        }

        void bringBack(House house) {
            house.returnTo(moments[freeSlot()]);
        }

        void clear() {
            size = 0;
        }

        boolean keepAs(int i, House house) {
            if (i < 0 || i >= MOST_KEPT) {
                return false;
            }
            house.writeTo(kept[i]);
            keptPeople[i] = house.people;
            keptCloths[i] = house.cloths;
            return true;
        }

        boolean hasKept(int i, House house) {
            return i >= 0 && i < MOST_KEPT && keptPeople[i] == house.people && keptCloths[i] == house.cloths;
        }

        void bringBackKept(int i, House house) {
            house.returnTo(kept[i]);
        }
    }

    /** ACTS of A YEAR, read whole before the first one is done. */
    private static final class Year {
        static final int MOST_ACTS = YEAR_SIGNS / 2;

        final int[] kinds = new int[MOST_ACTS];
        final int[] firsts = new int[MOST_ACTS];
        final int[] seconds = new int[MOST_ACTS];

        int readActs(Text text) {
            for (int act = 0; act < MOST_ACTS; act++) {
                if (!readAct(text, act)) {
                    return NONE;
                }
                if (text.isAtEnd()) {
                    return act + 1;
                }
                if (!text.take(';')) {
                    return NONE;
                }
            }
            return NONE;
        }

        boolean readAct(Text text, int act) {
            kinds[act] = text.next();
            if (text.take('k')) {
                return readWeeks(text, act);
            }
            if (!text.take('w') && !text.take('g') && !text.take('m')) {
                return false;
            }
            firsts[act] = text.takeDigit(0, 9);
            return firsts[act] != NONE && readSecond(text, act);
        }

        boolean readWeeks(Text text, int act) {
            int many = text.takeDigit(1, 9);
            firsts[act] = many == NONE ? 1 : many;
            return true;
        }

        boolean readSecond(Text text, int act) {
            if (kinds[act] == 'w' && text.take('-')) {
                seconds[act] = NONE;
                return true;
            }
            if (kinds[act] == 'w') {
                seconds[act] = text.takeDigit(0, 9);
            } else if (kinds[act] == 'g') {
                seconds[act] = text.takeDigit(0, MOST_PLACES - 1);
            } else {
                seconds[act] = text.take('=') ? text.takeNumber(2) : NONE;
            }
            return seconds[act] != NONE;
        }
    }

    /** LAWS that are to be met: one's in WEEKS to come, or those of several in WEEK NOW. */
    private static final class Wants {
        // Cost and inches in one number: what is cheaper is less, of as cheap ones what has fewer inches.
        static final int INCHES_SPAN = 4096;

        final int[] laws = new int[WEEKS_AHEAD];
        int size;
        final int[] tally = new int[MOST_ALL + 1];
        final int[] later = new int[MOST_TERM + 1];
        final int[] sooner = new int[MOST_TERM + 1];
        int planBought;
        int planHem;
        final int[] leastCosts = new int[1 << MOST_CLOTHS];
        final int[] chosen = new int[ALMANAC_WEEKS];

        void clear() {
            size = 0;
        }

        void add(int law) {
            if (size < WEEKS_AHEAD) {
                laws[size] = law;
                size++;
            }
        }

        int firstLongest() {
            int first = 0;
            for (int k = 1; k < size; k++) {
                if (laws[k] > laws[first]) {
                    first = k;
                }
            }
            return first;
        }

        int firstShortest() {
            int first = 0;
            for (int k = 1; k < size; k++) {
                if (laws[k] < laws[first]) {
                    first = k;
                }
            }
            return first;
        }

        /** For each ALL, how many LAWS it serves if so much can be turned in. */
        void tallyLaws(int mostHem) {
            for (int all = 0; all <= MOST_ALL; all++) {
                tally[all] = 0;
            }
            for (int k = 0; k < size; k++) {
                for (int all = laws[k]; all <= laws[k] + mostHem && all <= MOST_ALL; all++) {
                    tally[all]++;
                }
            }
        }

        int firstMostTallied() {
            int first = 0;
            for (int all = 1; all <= MOST_ALL; all++) {
                if (tally[all] > tally[first]) {
                    first = all;
                }
            }
            return first;
        }

        int countTallied() {
            int many = 0;
            for (int all = 0; all <= MOST_ALL; all++) {
                if (tally[all] > 0) {
                    many++;
                }
            }
            return many;
        }

        static boolean canServe(int all, int law, int mostHem) {
            return all >= law && all <= law + mostHem;
        }

        int countServed(int all, int mostHem) {
            int many = 0;
            for (int k = 0; k < size; k++) {
                if (canServe(all, laws[k], mostHem)) {
                    many++;
                }
            }
            return many;
        }

        int firstUnserved(int all, int mostHem) {
            for (int k = 0; k < size; k++) {
                if (!canServe(all, laws[k], mostHem)) {
                    return k;
                }
            }
            return NONE;
        }

        int planCheapest(House house) {
            int mostHem = house.mostHem();
            for (int hem = 0; hem <= mostHem; hem++) {
                later[hem] = 0;
            }
            for (int k = size - 2; k >= 0; k--) {
                for (int hem = 0; hem <= mostHem; hem++) {
                    sooner[hem] = cheapestStep(house, laws[k], laws[k] + hem, laws[k + 1]);
                }
                System.arraycopy(sooner, 0, later, 0, mostHem + 1);
            }
            int least = 0;
            for (int hem = 0; hem <= mostHem; hem++) {
                int cost = later[hem] + priced(house, laws[0] + hem, 0);
                if (hem == 0 || cost < least) {
                    least = cost;
                    planHem = hem;
                }
            }
            planBought = least % INCHES_SPAN;
            return least / INCHES_SPAN;
        }

        static int priced(House house, int inches, int sewn) {
            return house.priceOf(inches, sewn) * INCHES_SPAN + inches;
        }

        int cheapestStep(House house, int length, int all, int v) {
            int sewn = house.sewingFor(length, all, v);
            int rest = all - v;
            if (sewn <= 1 && rest >= 0 && rest <= MOST_TERM) {
                return later[rest] + priced(house, 0, sewn);
            }
            int least = 0;
            for (int hem = 0; hem <= house.mostHem(); hem++) {
                int inches = sewn == 3 ? v - all + hem : 0;
                int cost = later[hem] + priced(house, inches, sewn);
                if (hem == 0 || cost < least) {
                    least = cost;
                }
            }
            return least;
        }

        void billPlain(House house, int firstHem) {
            int all = laws[0] + firstHem;
            house.bought = all;
            for (int k = 1; k < size; k++) {
                int v = laws[k];
                int sewn = house.sewingFor(laws[k - 1], all, v);
                house.sewing += sewn;
                if (sewn == 3) {
                    house.bought += v - all;
                    all = v;
                }
                if (sewn == 2) {
                    all = v + house.mostHem();
                }
            }
        }

        /** The CLOTHS chosen, by LAWS: the least row of those that cost the least. */
        int dressCheapest(House house) {
            int every = (1 << house.cloths) - 1;
            for (int used = every; used >= 0; used--) {
                leastCosts[used] = 0;
                if (Integer.bitCount(used) < size) {
                    leastCosts[used] = costWith(house, used, firstCheapest(house, used));
                }
            }
            int used = 0;
            for (int k = 0; k < size && k < chosen.length; k++) {
                chosen[k] = firstCheapest(house, used);
                used |= 1 << chosen[k];
            }
            return leastCosts[0];
        }

        int costWith(House house, int used, int cloth) {
            int dressed = Integer.bitCount(used);
            if (!house.hasCloth(cloth) || dressed >= size) {
                return 0;
            }
            return house.costOf(cloth, laws[dressed]) + leastCosts[used | 1 << cloth];
        }

        int firstCheapest(House house, int used) {
            int first = NONE;
            int least = 0;
            for (int c = 0; c < house.cloths; c++) {
                if ((used >> c & 1) == 0) {
                    int cost = costWith(house, used, c);
                    if (first == NONE || cost < least) {
                        first = c;
                        least = cost;
                    }
                }
            }
            return first;
        }

        /** The fewest ALLS that serve all LAWS, the least row of them. */
        int packFewest(int mostHem) {
            int fewest = countFewest(0, mostHem);
            int shortest = nextLaw(0);
            for (int i = 0; i < fewest && i < chosen.length; i++) {
                int all = shortest;
                while (all < shortest + mostHem && countFewest(all + 1, mostHem) > fewest - i - 1) {
                    all++;
                }
                chosen[i] = all;
                shortest = nextLaw(all + 1);
            }
            return fewest;
        }

        int nextLaw(int from) {
            int next = NONE;
            for (int k = 0; k < size; k++) {
                if (laws[k] >= from && (next == NONE || laws[k] < next)) {
                    next = laws[k];
                }
            }
            return next;
        }

        int countFewest(int from, int mostHem) {
            int many = 0;
            int law = nextLaw(from);
            for (int k = 0; k < size && law != NONE; k++) {
                many++;
                law = nextLaw(law + mostHem + 1);
            }
            return many;
        }

        int countChanges(int cloths, int mostHem) {
            int changes = 0;
            int all = NONE;
            for (int k = 0; k < size; k++) {
                if (k == 0 || !canServe(all, laws[k], mostHem)) {
                    all = shortestFor(laws[k], cloths);
                    changes += k == 0 ? 0 : 1;
                }
            }
            return changes;
        }

        /** The shortest that is long enough can be worn: all LAWS are served. */
        int shortestFor(int law, int cloths) {
            for (int i = 0; i < cloths && i < chosen.length; i++) {
                if (chosen[i] >= law) {
                    return chosen[i];
                }
            }
            return NONE;
        }
    }

    /** What was seen of PEOPLE. */
    private static final class Sightings {
        static final int MOST = 12;

        final int[] persons = new int[MOST];
        final int[] places = new int[MOST];
        final int[] weeks = new int[MOST];
        final int[] inches = new int[MOST];
        int size;

        int add(int person, int place, int week, int v) {
            if (size >= MOST) {
                return NONE;
            }
            persons[size] = person;
            places[size] = place;
            weeks[size] = week;
            inches[size] = v;
            size++;
            return size;
        }
    }

    /** Jobs; sets of them are bits. */
    private static final class Workshop {
        static final int MOST_JOBS = 7;
        static final int MOST_HOURS = 20;
        static final int LAST_DUE = 99;
        static final int MOST_TAILORS = 3;

        final int[] hours = new int[MOST_JOBS];
        final int[] dues = new int[MOST_JOBS];
        int jobs;
        final int[] answer = new int[MOST_JOBS];
        final int[] sharing = new int[MOST_JOBS];
        final int[] loads = new int[MOST_TAILORS];
        final int[] leastLate = new int[1 << MOST_JOBS];
        final boolean[] inTime = new boolean[1 << MOST_JOBS];

        int take(int itsHours, int due) {
            if (itsHours < 1 || itsHours > MOST_HOURS || due < 0 || due > LAST_DUE) {
                return NONE;
            }
            if (jobs >= MOST_JOBS) {
                return -2;
            }
            hours[jobs] = itsHours;
            dues[jobs] = due;
            jobs++;
            return jobs;
        }

        int hoursOf(int those) {
            int sum = 0;
            for (int j = 0; j < jobs; j++) {
                sum += (those >> j & 1) * hours[j];
            }
            return sum;
        }

        int orderLeastLate() {
            int every = (1 << jobs) - 1;
            leastLate[every] = 0;
            for (int done = every - 1; done >= 0; done--) {
                int start = hoursOf(done);
                leastLate[done] = lateWith(done, start, firstLeastLate(done, start));
            }
            int done = 0;
            for (int k = 0; k < jobs; k++) {
                answer[k] = firstLeastLate(done, hoursOf(done));
                done |= 1 << answer[k];
            }
            return leastLate[0];
        }

        int lateWith(int done, int start, int job) {
            if (job < 0 || job >= jobs) {
                return 0;
            }
            return Math.max(0, start + hours[job] - dues[job]) + leastLate[done | 1 << job];
        }

        int firstLeastLate(int done, int start) {
            int first = NONE;
            int least = 0;
            for (int j = 0; j < jobs; j++) {
                if ((done >> j & 1) == 0) {
                    int late = lateWith(done, start, j);
                    if (first == NONE || late < least) {
                        first = j;
                        least = late;
                    }
                }
            }
            return first;
        }

        int mostInTime() {
            int most = 0;
            inTime[0] = true;
            for (int those = 1; those < 1 << jobs; those++) {
                inTime[those] = canBeInTime(those);
                if (inTime[those] && Integer.bitCount(those) > Integer.bitCount(most)) {
                    most = those;
                }
            }
            return most;
        }

        /** One of them is done last: it is in time at the end of all, and the others are without it. */
        boolean canBeInTime(int those) {
            int end = hoursOf(those);
            for (int j = 0; j < jobs; j++) {
                if ((those >> j & 1) == 1 && end <= dues[j] && inTime[those & ~(1 << j)]) {
                    return true;
                }
            }
            return false;
        }

        /** Job 0 is tailor 0's: tailors can be numbered anew, and then the row is less. */
        int shareAmong(int tailors) {
            int ways = 1;
            for (int j = 1; j < jobs; j++) {
                ways *= tailors;
            }
            int least = NONE;
            for (int way = 0; way < ways; way++) {
                int end = endOf(way, tailors);
                if (least == NONE || end < least) {
                    least = end;
                    System.arraycopy(sharing, 0, answer, 0, jobs);
                }
            }
            return least;
        }

        int endOf(int way, int tailors) {
            loads[0] = 0;
            loads[1] = 0;
            loads[2] = 0;
            int left = way;
            int end = 0;
            for (int j = jobs - 1; j >= 0; j--) {
                int tailor = tailors < 1 ? 0 : left % tailors;
                left = tailors < 1 ? 0 : left / tailors;
                sharing[j] = tailor;
                loads[tailor] += hours[j];
                end = Math.max(end, loads[tailor]);
            }
            return end;
        }
    }

    /** The ROW. */
    private static final class Row {
        final int[] numbers = new int[ALMANAC_WEEKS];
        int size;

        void tell(int a) {
            size = 1;
            numbers[0] = a;
        }

        void tell(int a, int b) {
            size = 2;
            numbers[0] = a;
            numbers[1] = b;
        }

        void tell(int a, int b, int c) {
            size = 3;
            numbers[0] = a;
            numbers[1] = b;
            numbers[2] = c;
        }

        void tellAll(int[] from, int many) {
            size = Math.max(0, Math.min(many, Math.min(from.length, numbers.length)));
            System.arraycopy(from, 0, numbers, 0, size);
        }
    }
}
