import java.util.Arrays;

/** Who may sign what; DOC.md says what each call promises. */
public final class WhoSigns {
    public static final int BAD = -1000000001, NO = -1000000002, FULL = -1000000003, NONE = -1000000005, NOTHING = -1000000011, KIND = -1000000012, INDEX = -1000000013, SIZE = -1000000014;

    private static final int PEOPLE = 7, STEPS = 6, RULES = 12, TEXTS = 14, OFFERS = 6, LOGGED = 30;
    private static final int PAPERS = 8, LAST_DAY = 999, TAPE = 96, WAITING = 60;
    private static final int SHEETS = 4, SLOTS = 5, PLACES = 24;

    private static final int RULE = 0, APART = 1, SAME = 2, KIN = 3, OVER = 4, MANY = 5, KINDS = 6;
    private static final int[] KIND_ABOVE = {-1, RULE, RULE, APART, APART, RULE};

    private static final int MAY = 0, COST = 1, WAIT = 2, KEYS = 3;

    private static final int MISSING = -1, BOOLEANS = 0, BYTES = 1;

    private static final int HOLDS_NOTHING = 0, HOLDS_RULE = 1, HOLDS_SHEET = 2, HOLDS_NUMBER = 3;

    private final Book book = new Book();
    private final Book image = new Book();
    private boolean hasImage = false;
    private final Finder finder = new Finder();
    private final Turnout turnout = new Turnout();
    private final Reader reader = new Reader();
    private final Sheet[] sheets = new Sheet[SHEETS];
    private final Slot[] slots = new Slot[SLOTS];
    private final int[] waiting = new int[WAITING];
    private int waits = 0;
    private final int[] ownPapers = new int[PEOPLE];

    public WhoSigns() {
        for (int s = 0; s < SHEETS; s++) {
            sheets[s] = new Sheet();
        }
        for (int s = 0; s < SLOTS; s++) {
            slots[s] = new Slot();
        }
    }

    // ---- people, steps

    public int person(int office, int rank, int kin) {
        if (!within(office, 0, 4) || !within(rank, 0, 9) || !within(kin, 0, 9)) {
            return BAD;
        }
        if (book.people >= PEOPLE) {
            return FULL;
        }
        book.persons[book.people].begin(office, rank, kin);
        book.people++;
        return book.people - 1;
    }

    public int personTold(int person, int what) {
        if (!book.hasPerson(person)) {
            return BAD;
        }
        Person p = book.persons[person];
        switch (what) {
            case 0: return p.office;
            case 1: return p.rank;
            case 2: return p.kin;
            case 3: return p.papers;
            case 4: return oneIf(p.isAway(book.day));
            case 5: return p.standsFor < 0 ? NONE : p.standsFor;
            case 6: return p.standsFor < 0 ? NONE : p.standsTill;
            case 7: return book.waitOf(person);
            default: return BAD;
        }
    }

    public int paper(int person, int paper, boolean has) {
        if (!book.hasPerson(person) || !within(paper, 0, PAPERS - 1)) {
            return BAD;
        }
        return oneIf(book.persons[person].setPaper(paper, has));
    }

    public int away(int person, int from, int to) {
        if (!book.hasPerson(person) || !isDay(from) || !isDay(to)) {
            return BAD;
        }
        Person p = book.persons[person];
        p.awayFrom = from;
        p.awayTo = to;
        return oneIf(p.isAway(book.day));
    }

    public int stand(int person, int other, int till) {
        if (!book.hasPerson(person)) {
            return BAD;
        }
        if (other != -1 && (!book.hasPerson(other) || other == person || !isDay(till))) {
            return BAD;
        }
        Person p = book.persons[person];
        int before = p.standsFor < 0 ? NONE : p.standsFor;
        p.standsFor = other;
        p.standsTill = till;
        return before;
    }

    public int step(int paper, int least, int minutes) {
        if (!within(paper, -1, PAPERS - 1) || !within(least, 0, 9) || !within(minutes, 1, 60)) {
            return BAD;
        }
        if (book.steps >= STEPS) {
            return FULL;
        }
        book.tasks[book.steps].begin(paper, least, minutes);
        book.steps++;
        return book.steps - 1;
    }

    public int stepTold(int step, int what) {
        if (!book.hasStep(step)) {
            return BAD;
        }
        Step s = book.tasks[step];
        switch (what) {
            case 0: return s.paper < 0 ? NONE : s.paper;
            case 1: return s.least;
            case 2: return s.minutes;
            case 3: return s.signer < 0 ? NONE : s.signer;
            case 4: return Integer.bitCount(book.whoMay(step, book.day));
            default: return BAD;
        }
    }

    public int days(int n) {
        if (!within(n, 1, 99)) {
            return BAD;
        }
        if (book.day + n > LAST_DAY) {
            return FULL;
        }
        book.day += n;
        return book.day;
    }

    public int may(int person, int step, int day) {
        if (!book.hasPerson(person) || !book.hasStep(step) || !isDay(day)) {
            return BAD;
        }
        return oneIf(book.mayDo(person, step, day));
    }

    public int cost(int person, int step) {
        if (!book.hasPerson(person) || !book.hasStep(step)) {
            return BAD;
        }
        return book.costOf(person, step);
    }

    // ---- rules

    public int rule(int kind, int steps, int n) {
        if (!isKind(kind) || steps < 0 || !within(n, 0, 9)) {
            return BAD;
        }
        int one = steps / 10;
        int other = steps % 10;
        if (!book.hasStep(one) || !book.hasStep(other) || one == other) {
            return BAD;
        }
        if (book.rules >= RULES) {
            return FULL;
        }
        book.laws[book.rules].begin(kind, one, other, n);
        book.rules++;
        return book.rules - 1;
    }

    public int told(int rule, int what) {
        if (!book.hasRule(rule)) {
            return BAD;
        }
        Rule r = book.laws[rule];
        switch (what) {
            case 0: return r.kind;
            case 1: return r.one;
            case 2: return r.other;
            case 3: return r.n;
            case 4: return weightOf(r.kind, r.n);
            case 5: return oneIf(r.isKept(book.persons, book.signers()));
            default: return BAD;
        }
    }

    public int as(int rule, int kind) {
        if (!book.hasRule(rule) || !isKind(kind)) {
            return BAD;
        }
        Rule r = book.laws[rule];
        return isUnder(r.kind, kind) ? r.n : KIND;
    }

    public int turns(int rule, int kind) {
        if (!book.hasRule(rule) || !isKind(kind)) {
            return BAD;
        }
        Rule r = book.laws[rule];
        int before = r.kind;
        r.kind = kind;
        return before;
    }

    public int drop(int rule) {
        if (!book.hasRule(rule)) {
            return BAD;
        }
        book.removeRule(rule);
        return book.rules;
    }

    public int keeps(int rule, int one, int other) {
        if (!book.hasRule(rule) || !book.hasPerson(one) || !book.hasPerson(other)) {
            return BAD;
        }
        Rule r = book.laws[rule];
        int[] doers = book.nobody();
        doers[r.one] = one;
        doers[r.other] = other;
        return oneIf(r.isKept(book.persons, doers));
    }

    // ---- texts

    public int feed(int a, int b, int c) {
        if (reader.length + 12 > TAPE) {
            return FULL;
        }
        reader.append(a);
        reader.append(b);
        reader.append(c);
        return reader.length;
    }

    public int trim(int n) {
        if (!within(n, 0, reader.length)) {
            return BAD;
        }
        reader.length = n;
        return n;
    }

    public int text() {
        int fault = reader.findFault();
        reader.length = 0;
        if (fault >= 0) {
            return -100 - fault;
        }
        if (book.texts >= TEXTS) {
            return FULL;
        }
        book.addText(reader.makeText());
        return book.texts - 1;
    }

    public int textTold(int text, int what) {
        Text t = book.textAt(text);
        if (t == null) {
            return BAD;
        }
        switch (what) {
            case 0: return t.key;
            case 1: return t.pieces;
            default: return BAD;
        }
    }

    public int why(int key) {
        if (!within(key, 0, KEYS - 1)) {
            return BAD;
        }
        int latest = book.latest[key];
        return latest < 0 ? NONE : latest;
    }

    // ---- ways

    public int ways(int day) {
        if (!isDay(day)) {
            return BAD;
        }
        finder.open(book, day);
        return finder.countAll();
    }

    public int way(int which, int what) {
        if (!within(which, 0, 1) || !within(what, -1, book.steps - 1)) {
            return BAD;
        }
        finder.open(book, book.day);
        finder.readCosts(book);
        boolean found = which == 0 ? finder.findFirst() : finder.findCheapest();
        if (!found) {
            return NONE;
        }
        return what < 0 ? finder.foundCost() : finder.found[what];
    }

    public int must(int person) {
        if (!book.hasPerson(person)) {
            return BAD;
        }
        finder.open(book, book.day);
        if (!finder.isAny(0)) {
            return 0;
        }
        if (!finder.isAnyWithout(person)) {
            return 2;
        }
        return oneIf(finder.mostBy(person) > 0);
    }

    public int sly(int person) {
        if (!book.hasPerson(person)) {
            return BAD;
        }
        finder.open(book, book.day);
        return finder.isAny(0) ? finder.mostBy(person) : NONE;
    }

    public int missing() {
        finder.open(book, book.day);
        if (!finder.isAny(0)) {
            return NO;
        }
        for (int size = 1; size <= book.people; size++) {
            int set = finder.firstBreaking(size);
            if (set >= 0) {
                return set;
            }
        }
        return NONE;
    }

    public int bears(int n) {
        if (!within(n, 0, book.people)) {
            return BAD;
        }
        finder.open(book, book.day);
        return oneIf(finder.firstBreaking(n) < 0);
    }

    public int offer(int person, int paper) {
        if (!book.hasPerson(person) || !within(paper, 0, PAPERS - 1)) {
            return BAD;
        }
        if (book.offers >= OFFERS) {
            return FULL;
        }
        book.offerPerson[book.offers] = person;
        book.offerPaper[book.offers] = paper;
        book.offers++;
        return book.offers - 1;
    }

    public int clear() {
        int before = book.offers;
        book.offers = 0;
        return before;
    }

    public int teach() {
        if (book.people == 0) {
            return 0;
        }
        int sets = 1 << book.offers;
        // more papers never take a way away: what all of them cannot do, no fewer can
        if (!isTaughtEnough(sets - 1)) {
            return NONE;
        }
        for (int size = 0; size <= book.offers; size++) {
            for (int set = 0; set < sets; set++) {
                if (Integer.bitCount(set) == size && isTaughtEnough(set)) {
                    return set;
                }
            }
        }
        return NONE;
    }

    public int soon() {
        int last = Math.min(book.day + 59, LAST_DAY);
        for (int day = book.day; day <= last; day++) {
            boolean sameAsBefore = finder.open(book, day);
            if ((day == book.day || !sameAsBefore) && finder.isAny(0)) {
                return day;
            }
        }
        return NONE;
    }

    // ---- signatures

    public int sign(int step, int person) {
        if (!book.hasStep(step) || !book.hasPerson(person)) {
            return BAD;
        }
        Step s = book.tasks[step];
        if (s.signer >= 0 || !book.mayDo(person, step, book.day)) {
            return NO;
        }
        int[] doers = book.signers();
        doers[step] = person;
        if (book.firstBroken(doers) >= 0) {
            return NO;
        }
        s.signer = person;
        book.log.append(book.day, step, person);
        return book.countSigned();
    }

    public int over() {
        int before = book.countSigned();
        for (int s = 0; s < book.steps; s++) {
            book.tasks[s].signer = -1;
        }
        return before;
    }

    public int judge() {
        int broken = book.firstBroken(book.signers());
        return broken < 0 ? NONE : broken;
    }

    public int queue(int what) {
        if (!within(what, -1, book.steps - 1)) {
            return BAD;
        }
        int[] doers = turnout.turnUp(book);
        if (what >= 0) {
            return doers[what] < 0 ? NONE : doers[what];
        }
        int done = 0;
        for (int s = 0; s < book.steps; s++) {
            done += oneIf(doers[s] >= 0);
        }
        return done;
    }

    public int log(int i, int what) {
        if (i < 0 || !within(what, 0, 2)) {
            return BAD;
        }
        Log log = book.log;
        if (i >= log.rows) {
            return NONE;
        }
        if (what == 0) {
            return log.days[i];
        }
        return what == 1 ? log.steps[i] : log.people[i];
    }

    public int audit(int i) {
        if (i < -1) {
            return BAD;
        }
        int found = 0;
        for (int row = 0; row < book.log.rows; row++) {
            if (!book.mayDo(book.log.people[row], book.log.steps[row], book.day)) {
                if (found == i) {
                    return row;
                }
                found++;
            }
        }
        return i < 0 ? found : NONE;
    }

    public int seed(int v) {
        int before = book.z;
        book.z = v;
        return before;
    }

    public int luck(int m) {
        if (!within(m, 1, 60)) {
            return BAD;
        }
        finder.open(book, book.day);
        // those who are missing never add a way: where there is none, no trial is lucky, but all are drawn
        boolean isAnyAtAll = finder.isAny(0);
        int lucky = 0;
        for (int trial = 0; trial < m; trial++) {
            int missing = book.drawMissing();
            lucky += oneIf(isAnyAtAll && finder.isAny(missing));
        }
        return lucky;
    }

    // ---- sheets, slots

    public int sheet(int sheet, int sort, int n) {
        if (!isSheet(sheet) || !within(sort, MISSING, BYTES)) {
            return BAD;
        }
        if (sort == MISSING) {
            sheets[sheet].begin(MISSING, 0);
            return 0;
        }
        if (n > PLACES) {
            return BAD;
        }
        if (n < 0) {
            return SIZE;
        }
        sheets[sheet].begin(sort, n);
        return n;
    }

    public int mark(int sheet, int place, int v) {
        if (!isSheet(sheet)) {
            return BAD;
        }
        Sheet s = sheets[sheet];
        if (s.sort == MISSING) {
            return NOTHING;
        }
        if (!s.hasPlace(place)) {
            return INDEX;
        }
        int before = s.row[place];
        s.row[place] = s.sort == BOOLEANS ? (byte) oneIf(v != 0) : (byte) v;
        return before;
    }

    public int papers(int person, int sheet) {
        if (!book.hasPerson(person) || !isSheet(sheet)) {
            return BAD;
        }
        Sheet s = sheets[sheet];
        if (s.sort == MISSING) {
            return NOTHING;
        }
        int changed = 0;
        int shown = Math.min(PAPERS, s.places);
        for (int paper = 0; paper < shown; paper++) {
            changed += oneIf(book.persons[person].setPaper(paper, s.row[paper] != 0));
        }
        return changed;
    }

    public int copy(int from, int place, int to, int at, int many) {
        if (!isSheet(from) || !isSheet(to)) {
            return BAD;
        }
        Sheet source = sheets[from];
        Sheet goal = sheets[to];
        if (source.sort == MISSING || goal.sort == MISSING) {
            return NOTHING;
        }
        if (source.sort != goal.sort) {
            return KIND;
        }
        if (!source.hasRun(place, many) || !goal.hasRun(at, many)) {
            return INDEX;
        }
        System.arraycopy(source.row, place, goal.row, at, many);
        return many;
    }

    public int lay(int slot, int thing, int k) {
        if (!isSlot(slot) || !within(thing, HOLDS_NOTHING, HOLDS_NUMBER)) {
            return BAD;
        }
        if ((thing == HOLDS_RULE && !book.hasRule(k)) || (thing == HOLDS_SHEET && !isSheet(k))) {
            return BAD;
        }
        if (thing == HOLDS_SHEET && sheets[k].sort == MISSING) {
            return NOTHING;
        }
        Slot s = slots[slot];
        int before = s.thing;
        s.thing = thing;
        if (thing == HOLDS_RULE) {
            s.rule.takeFrom(book.laws[k]);
        } else if (thing == HOLDS_SHEET) {
            s.sheet.takeFrom(sheets[k]);
        } else {
            s.number = k;
        }
        return before;
    }

    public int ask(int slot, int kind) {
        if (!isSlot(slot) || !isKind(kind)) {
            return BAD;
        }
        Slot s = slots[slot];
        if (s.thing == HOLDS_NOTHING) {
            return NOTHING;
        }
        if (s.thing != HOLDS_RULE || !isUnder(s.rule.kind, kind)) {
            return KIND;
        }
        return weightOf(s.rule.kind, s.rule.n);
    }

    public int item(int slot, int place) {
        if (!isSlot(slot)) {
            return BAD;
        }
        Slot s = slots[slot];
        if (s.thing == HOLDS_NOTHING) {
            return NOTHING;
        }
        if (s.thing != HOLDS_SHEET) {
            return KIND;
        }
        return s.sheet.hasPlace(place) ? s.sheet.row[place] : INDEX;
    }

    public int rest(int slot, int n) {
        if (!isSlot(slot)) {
            return BAD;
        }
        Slot s = slots[slot];
        if (s.thing == HOLDS_NOTHING) {
            return NOTHING;
        }
        if (s.thing != HOLDS_NUMBER) {
            return KIND;
        }
        return n == 0 ? NO : s.number % n;
    }

    // ---- rows, images

    public int tell(int v) {
        if (waits >= WAITING) {
            return FULL;
        }
        waiting[waits] = v;
        waits++;
        return waits;
    }

    public int check(int n) {
        int told = waits;
        waits = 0;
        if (!within(n, 1, 20)) {
            return BAD;
        }
        if (!hasImage || image.day + n - 1 > LAST_DAY) {
            return NO;
        }
        int right = countRight(n, told);
        return right == n && told == n ? 0 : 1 + right;
    }

    public int keep() {
        image.takeFrom(book);
        hasImage = true;
        return book.day;
    }

    public int back() {
        if (!hasImage) {
            return NO;
        }
        book.takeFrom(image);
        return book.day;
    }

    public int count(int what) {
        switch (what) {
            case 0: return book.people;
            case 1: return book.steps;
            case 2: return book.rules;
            case 3: return book.countSigned();
            case 4: return book.texts;
            case 5: return book.offers;
            case 6: return book.log.rows;
            case 7: return book.countAway();
            case 8: return waits;
            case 9: return reader.length;
            case 10: return book.day;
            case 11: return book.z;
            default: return BAD;
        }
    }

    // ---- what several calls need

    private static boolean within(int v, int least, int most) {
        return least <= v && v <= most;
    }

    private static boolean isDay(int v) {
        return within(v, 0, LAST_DAY);
    }

    private static boolean isKind(int v) {
        return within(v, 0, KINDS - 1);
    }

    private static boolean isSheet(int v) {
        return within(v, 0, SHEETS - 1);
    }

    private static boolean isSlot(int v) {
        return within(v, 0, SLOTS - 1);
    }

    private static int oneIf(boolean yes) {
        return yes ? 1 : 0;
    }

    private static boolean isUnder(int kind, int other) {
        int above = kind;
        for (int levels = 0; levels < KINDS && isKind(above); levels++) {
            if (above == other) {
                return true;
            }
            above = KIND_ABOVE[above];
        }
        return false;
    }

    private static int weightOf(int kind, int n) {
        switch (kind) {
            case APART: return 1 + n;
            case KIN: return 2 * (1 + n);
            case OVER: return 1 + n + 3;
            case SAME: return 4;
            case MANY: return n * n;
            default: return 1;
        }
    }

    /** Whether any one may be missing, once the offers of the set are taken. */
    private boolean isTaughtEnough(int set) {
        for (int p = 0; p < book.people; p++) {
            ownPapers[p] = book.persons[p].papers;
        }
        for (int k = 0; k < book.offers; k++) {
            if ((set >> k & 1) != 0) {
                book.persons[book.offerPerson[k]].setPaper(book.offerPaper[k], true);
            }
        }
        finder.open(book, book.day);
        for (int p = 0; p < book.people; p++) {
            book.persons[p].papers = ownPapers[p];
        }
        return finder.firstBreaking(1) < 0;
    }

    /** How many of the numbers told are right, up to the first that is not. */
    private int countRight(int n, int told) {
        int most = Math.min(n, told);
        int all = 0;
        for (int k = 0; k < most; k++) {
            boolean sameAsBefore = finder.open(image, image.day + k);
            if (k == 0 || !sameAsBefore) {
                all = finder.countAll();
            }
            if (waiting[k] != all) {
                return k;
            }
        }
        return most;
    }

    private static final class Person {
        int office = 0;
        int rank = 0;
        int kin = 0;
        int papers = 0;
        int awayFrom = 0;
        int awayTo = -1;
        int standsFor = -1;
        int standsTill = 0;

        void begin(int itsOffice, int itsRank, int itsKin) {
            office = itsOffice;
            rank = itsRank;
            kin = itsKin;
            papers = 0;
            awayFrom = 0;
            awayTo = -1;
            standsFor = -1;
            standsTill = 0;
        }

        void takeFrom(Person other) {
            office = other.office;
            rank = other.rank;
            kin = other.kin;
            papers = other.papers;
            awayFrom = other.awayFrom;
            awayTo = other.awayTo;
            standsFor = other.standsFor;
            standsTill = other.standsTill;
        }

        boolean isAway(int day) {
            return awayFrom <= day && day <= awayTo;
        }

        boolean owns(int paper) {
            return (papers >> paper & 1) != 0;
        }

        /** Whether this is new. */
        boolean setPaper(int paper, boolean has) {
            int before = papers;
            papers = has ? papers | 1 << paper : papers & ~(1 << paper);
            return papers != before;
        }
    }

    private static final class Step {
        int paper = -1;
        int least = 0;
        int minutes = 1;
        int signer = -1;

        void begin(int itsPaper, int itsLeast, int itsMinutes) {
            paper = itsPaper;
            least = itsLeast;
            minutes = itsMinutes;
            signer = -1;
        }

        void takeFrom(Step other) {
            paper = other.paper;
            least = other.least;
            minutes = other.minutes;
            signer = other.signer;
        }
    }

    private static final class Rule {
        int kind = RULE;
        int one = 0;
        int other = 1;
        int n = 0;

        void begin(int itsKind, int itsOne, int itsOther, int itsN) {
            kind = itsKind;
            one = itsOne;
            other = itsOther;
            n = itsN;
        }

        void takeFrom(Rule r) {
            kind = r.kind;
            one = r.one;
            other = r.other;
            n = r.n;
        }

        int firstStep() {
            return one < other ? one : other;
        }

        int lastStep() {
            return one < other ? other : one;
        }

        /** Of every kind but MANY: whether a and b keep it as those who do its two steps. */
        boolean suits(Person[] persons, int a, int b) {
            Person first = persons[a];
            Person second = persons[b];
            switch (kind) {
                case APART: return a != b;
                case KIN: return a != b && (first.kin != second.kin || first.kin == 0);
                case OVER: return a != b && second.rank >= first.rank + n;
                case SAME: return a == b;
                default: return true;
            }
        }

        /** Doers: who does each step, below 0 where nobody does. */
        boolean isKept(Person[] persons, int[] doers) {
            if (kind == MANY) {
                return isManyKept(doers);
            }
            return doers[one] < 0 || doers[other] < 0 || suits(persons, doers[one], doers[other]);
        }

        private boolean isManyKept(int[] doers) {
            int seen = 0;
            int last = lastStep();
            for (int s = firstStep(); s <= last; s++) {
                if (doers[s] < 0) {
                    return true;
                }
                seen |= 1 << doers[s];
            }
            return Integer.bitCount(seen) >= n;
        }
    }

    /** A text as its pieces and signs, each sign behind what it joins. */
    private static final class Text {
        static final int NOT = -33, BELOW_NAMES = -6;

        final int key;
        final int pieces;
        private final int[] code;

        Text(int itsKey, int itsPieces, int[] itsCode) {
            key = itsKey;
            pieces = itsPieces;
            code = itsCode;
        }

        /** Given: what the names stand for; stack: a row to work in. */
        int worth(int[] given, int[] stack) {
            int top = 0;
            for (int at = 0; at < code.length; at++) {
                int sign = code[at];
                if (sign > BELOW_NAMES) {
                    if (top < stack.length) {
                        stack[top] = sign >= 0 ? sign : valueOf(-1 - sign, given);
                        top++;
                    }
                } else if (sign == NOT) {
                    if (top >= 1) {
                        stack[top - 1] = oneIf(stack[top - 1] == 0);
                    }
                } else if (top >= 2) {
                    stack[top - 2] = joined(-sign, stack[top - 2], stack[top - 1]);
                    top--;
                }
            }
            return top >= 1 ? stack[0] : 0;
        }

        private static int valueOf(int name, int[] given) {
            return name < given.length ? given[name] : 0;
        }

        private static int joined(int sign, int a, int b) {
            switch (sign) {
                case '|': return a != 0 || b != 0 ? 1 : 0;
                case '&': return a != 0 && b != 0 ? 1 : 0;
                case '<': return a < b ? 1 : 0;
                case '=': return a == b ? 1 : 0;
                case '>': return a > b ? 1 : 0;
                case '+': return a + b;
                case '-': return a - b;
                case '*': return a * b;
                default: return b == 0 ? 0 : a / b;
            }
        }
    }

    /** The tape, and how a text is read from it. */
    private static final class Reader {
        private static final int END = 0, LETTERS = 1, DIGITS = 2, SIGN = 3, GLUED = 4;
        private static final int TEST_LEVEL = 2, PIECE_LEVEL = 5, DEEPEST = 8, DIGITS_MOST = 4;

        final int[] tape = new int[TAPE];
        int length = 0;
        private int sort = END;
        private int start = 0;
        private int end = 0;
        private int key = MAY;
        private int pieces = 0;
        private final int[] code = new int[TAPE];
        private int size = 0;

        void append(int number) {
            for (int shift = 24; shift >= 0; shift -= 8) {
                if (length < TAPE) {
                    tape[length] = number >>> shift & 255;
                    length++;
                }
            }
        }

        /** Reads the tape as a text: the place of its fault, or -1. */
        int findFault() {
            sort = END;
            end = 0;
            pieces = 0;
            size = 0;
            next();
            key = keyHere();
            if (key < 0) {
                return start;
            }
            next();
            return part(0, 0, 0) && sort == END ? -1 : start;
        }

        Text makeText() {
            return new Text(key, pieces, Arrays.copyOf(code, size));
        }

        /** Goes on to the next word or sign, from start to end; at the end of the tape both are there. */
        private void next() {
            boolean behindWord = sort == LETTERS || sort == DIGITS;
            int before = end;
            start = end;
            while (start < length && tape[start] == ' ') {
                start++;
            }
            end = start;
            if (start >= length) {
                sort = END;
                return;
            }
            sort = sortOf(tape[start]);
            end = start + 1;
            if (sort == SIGN) {
                return;
            }
            while (end < length && sortOf(tape[end]) == sort) {
                end++;
            }
            if (behindWord && start == before) {
                sort = GLUED;
            }
        }

        private static int sortOf(int sign) {
            if ('a' <= sign && sign <= 'z') {
                return LETTERS;
            }
            return '0' <= sign && sign <= '9' ? DIGITS : SIGN;
        }

        private int keyHere() {
            if (spells("may")) {
                return MAY;
            }
            if (spells("cost")) {
                return COST;
            }
            return spells("wait") ? WAIT : -1;
        }

        private boolean spells(String word) {
            if (sort != LETTERS || end - start != word.length()) {
                return false;
            }
            for (int at = start; at < end; at++) {
                if (tape[at] != word.charAt(at - start)) {
                    return false;
                }
            }
            return true;
        }

        /** Level 0 joins by |, 1 by &, 2 by a test, 3 by + and -, 4 by * and /; open and nots: how many ( and ! stand around it. */
        private boolean part(int level, int open, int nots) {
            if (level >= PIECE_LEVEL) {
                return piece(open, nots);
            }
            if (!part(level + 1, open, nots)) {
                return false;
            }
            int most = level == TEST_LEVEL ? 1 : TAPE;
            for (int joins = 0; joins < most && sort == SIGN && levelOf(tape[start]) == level; joins++) {
                int sign = tape[start];
                next();
                if (!part(level + 1, open, nots)) {
                    return false;
                }
                put(-sign);
            }
            return true;
        }

        private static int levelOf(int sign) {
            switch (sign) {
                case '|': return 0;
                case '&': return 1;
                case '<': case '=': case '>': return TEST_LEVEL;
                case '+': case '-': return 3;
                case '*': case '/': return 4;
                default: return PIECE_LEVEL;
            }
        }

        private boolean piece(int open, int nots) {
            if (sort == DIGITS) {
                return number();
            }
            if (sort == LETTERS) {
                return name();
            }
            if (sort != SIGN) {
                return false;
            }
            if (tape[start] == '!' && nots < DEEPEST) {
                next();
                if (!piece(open, nots + 1)) {
                    return false;
                }
                put(Text.NOT);
                return true;
            }
            if (tape[start] == '(' && open < DEEPEST) {
                next();
                if (!part(0, open + 1, nots) || sort != SIGN || tape[start] != ')') {
                    return false;
                }
                next();
                return true;
            }
            return false;
        }

        private boolean number() {
            if (end - start > DIGITS_MOST) {
                return false;
            }
            int value = 0;
            for (int at = start; at < end; at++) {
                value = value * 10 + tape[at] - '0';
            }
            pieces++;
            put(value);
            next();
            return true;
        }

        private boolean name() {
            if (end - start != 1 || namesOf(key).indexOf((char) tape[start]) < 0) {
                return false;
            }
            pieces++;
            put(-1 - Book.NAMES.indexOf((char) tape[start]));
            next();
            return true;
        }

        private static String namesOf(int key) {
            if (key == MAY) {
                return "krod";
            }
            return key == COST ? "rom" : "rod";
        }

        private void put(int sign) {
            if (size < TAPE) {
                code[size] = sign;
                size++;
            }
        }
    }

    /** The signatures that are kept. */
    private static final class Log {
        final int[] days = new int[LOGGED];
        final int[] steps = new int[LOGGED];
        final int[] people = new int[LOGGED];
        int rows = 0;

        void append(int day, int step, int person) {
            if (rows >= LOGGED) {
                removeFirst(days);
                removeFirst(steps);
                removeFirst(people);
                rows = LOGGED - 1;
            }
            days[rows] = day;
            steps[rows] = step;
            people[rows] = person;
            rows++;
        }

        private static void removeFirst(int[] row) {
            System.arraycopy(row, 1, row, 0, LOGGED - 1);
        }

        void takeFrom(Log other) {
            System.arraycopy(other.days, 0, days, 0, LOGGED);
            System.arraycopy(other.steps, 0, steps, 0, LOGGED);
            System.arraycopy(other.people, 0, people, 0, LOGGED);
            rows = other.rows;
        }
    }

    /** All that an image keeps. */
    private static final class Book {
        static final String NAMES = "krodm";

        final Person[] persons = new Person[PEOPLE];
        int people = 0;
        final Step[] tasks = new Step[STEPS];
        int steps = 0;
        final Rule[] laws = new Rule[RULES];
        int rules = 0;
        private final Text[] read = new Text[TEXTS];
        int texts = 0;
        final int[] latest = {-1, -1, -1};
        final int[] offerPerson = new int[OFFERS];
        final int[] offerPaper = new int[OFFERS];
        int offers = 0;
        final Log log = new Log();
        int day = 0;
        int z = 1;
        private final int[] given = new int[5];
        private final int[] stack = new int[TAPE];
        private final int[] doers = new int[STEPS];

        Book() {
            for (int p = 0; p < PEOPLE; p++) {
                persons[p] = new Person();
            }
            for (int s = 0; s < STEPS; s++) {
                tasks[s] = new Step();
            }
            for (int r = 0; r < RULES; r++) {
                laws[r] = new Rule();
            }
        }

        void takeFrom(Book other) {
            people = other.people;
            steps = other.steps;
            rules = other.rules;
            texts = other.texts;
            offers = other.offers;
            day = other.day;
            z = other.z;
            for (int p = 0; p < PEOPLE; p++) {
                persons[p].takeFrom(other.persons[p]);
            }
            for (int s = 0; s < STEPS; s++) {
                tasks[s].takeFrom(other.tasks[s]);
            }
            for (int r = 0; r < RULES; r++) {
                laws[r].takeFrom(other.laws[r]);
            }
            for (int t = 0; t < TEXTS; t++) {
                read[t] = other.read[t];
            }
            System.arraycopy(other.latest, 0, latest, 0, KEYS);
            System.arraycopy(other.offerPerson, 0, offerPerson, 0, OFFERS);
            System.arraycopy(other.offerPaper, 0, offerPaper, 0, OFFERS);
            log.takeFrom(other.log);
        }

        boolean hasPerson(int v) {
            return within(v, 0, people - 1);
        }

        boolean hasStep(int v) {
            return within(v, 0, steps - 1);
        }

        boolean hasRule(int v) {
            return within(v, 0, rules - 1);
        }

        /** Null, if there is none. */
        Text textAt(int v) {
            return within(v, 0, texts - 1) ? read[v] : null;
        }

        void addText(Text t) {
            if (texts < TEXTS) {
                read[texts] = t;
                latest[t.key] = texts;
                texts++;
            }
        }

        void removeRule(int rule) {
            for (int r = rule; r < rules - 1; r++) {
                laws[r].takeFrom(laws[r + 1]);
            }
            rules--;
        }

        boolean mayDo(int person, int step, int onDay) {
            Person p = persons[person];
            Step s = tasks[step];
            if (p.isAway(onDay) || p.rank < s.least) {
                return false;
            }
            if (s.paper >= 0 && !hasPaper(p, s.paper, onDay)) {
                return false;
            }
            Text t = textAt(latest[MAY]);
            return t == null || t.worth(names(p, step, onDay, 0), stack) != 0;
        }

        private boolean hasPaper(Person p, int paper, int onDay) {
            if (p.owns(paper)) {
                return true;
            }
            if (p.standsFor < 0 || p.standsFor >= people || p.standsTill < onDay) {
                return false;
            }
            Person other = persons[p.standsFor];
            return other.isAway(onDay) && other.owns(paper);
        }

        /** What the names stand for, in the order of NAMES. */
        private int[] names(Person p, int step, int onDay, int minutes) {
            given[0] = step;
            given[1] = p.rank;
            given[2] = p.office;
            given[3] = onDay;
            given[4] = minutes;
            return given;
        }

        /** As bits. */
        int whoMay(int step, int onDay) {
            int bits = 0;
            for (int p = 0; p < people; p++) {
                if (mayDo(p, step, onDay)) {
                    bits |= 1 << p;
                }
            }
            return bits;
        }

        int costOf(int person, int step) {
            Person p = persons[person];
            int minutes = tasks[step].minutes;
            Text t = textAt(latest[COST]);
            if (t == null) {
                return minutes * (p.rank + 1);
            }
            return Math.max(0, Math.min(9999, t.worth(names(p, step, day, minutes), stack)));
        }

        int waitOf(int person) {
            Person p = persons[person];
            Text t = textAt(latest[WAIT]);
            return t == null ? 10 * p.rank : t.worth(names(p, 0, day, 0), stack);
        }

        int countSigned() {
            int signed = 0;
            for (int s = 0; s < steps; s++) {
                signed += oneIf(tasks[s].signer >= 0);
            }
            return signed;
        }

        int countAway() {
            int gone = 0;
            for (int p = 0; p < people; p++) {
                gone += oneIf(persons[p].isAway(day));
            }
            return gone;
        }

        /** The row of those who do the steps, with nobody in it; it is one row, used again and again. */
        int[] nobody() {
            Arrays.fill(doers, -1);
            return doers;
        }

        /** The same row, with those who signed. */
        int[] signers() {
            int[] signed = nobody();
            for (int s = 0; s < steps; s++) {
                signed[s] = tasks[s].signer;
            }
            return signed;
        }

        /** The first rule that these do not keep, or -1. */
        int firstBroken(int[] row) {
            for (int r = 0; r < rules; r++) {
                if (!laws[r].isKept(persons, row)) {
                    return r;
                }
            }
            return -1;
        }

        /** Draws who is missing in a trial, as bits. */
        int drawMissing() {
            int bits = 0;
            for (int p = 0; p < people; p++) {
                z = z * 1103515245 + 12345;
                if ((z >>> 8) % 4 == 0) {
                    bits |= 1 << p;
                }
            }
            return bits;
        }
    }

    /** Looks for ways on a day: of each step it knows who is left for it, less with each step that is given to somebody. */
    private static final class Finder {
        private static final int TOO_DEAR = 1000000;

        private int people = 0;
        private int steps = 0;
        private int openSteps = 0;
        private final int[] could = new int[STEPS];
        private final int[] left = new int[(STEPS + 1) * STEPS];
        private final int[] fits = new int[STEPS * STEPS * PEOPLE];
        private final int[] manyFirst = new int[RULES];
        private final int[] manyLast = new int[RULES];
        private final int[] manyLeast = new int[RULES];
        private int manies = 0;
        private int pairedLater = 0;
        private final int[] who = new int[STEPS];
        private final int[] costs = new int[STEPS * PEOPLE];
        private final int[] costsToCome = new int[STEPS + 1];
        private int leastCost = TOO_DEAR;
        final int[] found = new int[STEPS];

        /** Gets ready for a day: whether just the same people could do the same steps as when it was opened last. */
        boolean open(Book book, int day) {
            people = book.people;
            steps = book.steps;
            readRules(book);
            openSteps = 0;
            boolean same = true;
            for (int s = 0; s < steps; s++) {
                int signer = book.tasks[s].signer;
                int bits = signer >= 0 ? 1 << signer : book.whoMay(s, day);
                if (signer < 0) {
                    openSteps |= 1 << s;
                }
                same = same && could[s] == bits;
                could[s] = bits;
            }
            return same;
        }

        private void readRules(Book book) {
            Arrays.fill(fits, -1);
            manies = 0;
            pairedLater = 0;
            for (int r = 0; r < book.rules; r++) {
                Rule rule = book.laws[r];
                if (rule.kind == MANY) {
                    readMany(rule);
                } else if (rule.kind != RULE) {
                    readPair(rule, book.persons);
                }
            }
        }

        private void readMany(Rule rule) {
            manyFirst[manies] = rule.firstStep();
            manyLast[manies] = rule.lastStep();
            manyLeast[manies] = rule.n;
            manies++;
        }

        private void readPair(Rule rule, Person[] persons) {
            for (int a = 0; a < people; a++) {
                for (int b = 0; b < people; b++) {
                    if (!rule.suits(persons, a, b)) {
                        fits[fitPlace(rule.one, rule.other, a)] &= ~(1 << b);
                        fits[fitPlace(rule.other, rule.one, b)] &= ~(1 << a);
                    }
                }
            }
            pairedLater |= 1 << rule.firstStep();
        }

        private static int fitPlace(int step, int later, int person) {
            return (step * STEPS + later) * PEOPLE + person;
        }

        /** Costs of signed steps are 0. */
        void readCosts(Book book) {
            for (int s = 0; s < steps; s++) {
                for (int p = 0; p < people; p++) {
                    costs[s * PEOPLE + p] = isOpen(s) ? book.costOf(p, s) : 0;
                }
            }
        }

        private boolean isOpen(int step) {
            return (openSteps >> step & 1) != 0;
        }

        int countAll() {
            leaveWithout(0, 0);
            return countFrom(0);
        }

        boolean isAny(int missing) {
            leaveWithout(missing, 0);
            return isAnyFrom(0);
        }

        boolean isAnyWithout(int person) {
            leaveWithout(1 << person, 1 << person);
            return isAnyFrom(0);
        }

        boolean findFirst() {
            boolean any = isAny(0);
            if (any) {
                System.arraycopy(who, 0, found, 0, STEPS);
            }
            return any;
        }

        boolean findCheapest() {
            leaveWithout(0, 0);
            costsToCome[steps] = 0;
            for (int s = steps - 1; s >= 0; s--) {
                costsToCome[s] = costsToCome[s + 1] + leastCostOf(s);
            }
            leastCost = TOO_DEAR;
            lookForCheaper(0, 0);
            return leastCost < TOO_DEAR;
        }

        private int leastCostOf(int step) {
            int least = TOO_DEAR;
            for (int p = 0; p < people; p++) {
                if ((could[step] >> p & 1) != 0) {
                    least = Math.min(least, costs[step * PEOPLE + p]);
                }
            }
            return least;
        }

        int foundCost() {
            int sum = 0;
            for (int s = 0; s < steps; s++) {
                sum += costs[s * PEOPLE + found[s]];
            }
            return sum;
        }

        /** The most steps that the person does in some way. */
        int mostBy(int person) {
            int most = 0;
            int sets = 1 << steps;
            for (int set = 1; set < sets; set++) {
                if (Integer.bitCount(set) > most) {
                    leaveTo(set, person);
                    if (isAnyFrom(0)) {
                        most = Integer.bitCount(set);
                    }
                }
            }
            return most;
        }

        /** The least set of so many people without whom there is no way, or -1. */
        int firstBreaking(int size) {
            int sets = 1 << people;
            for (int set = 0; set < sets; set++) {
                if (Integer.bitCount(set) == size && !isAny(set)) {
                    return set;
                }
            }
            return -1;
        }

        private void leaveWithout(int missingOpen, int missingSigned) {
            for (int s = 0; s < steps; s++) {
                left[s] = could[s] & ~(isOpen(s) ? missingOpen : missingSigned);
            }
        }

        private void leaveTo(int set, int person) {
            for (int s = 0; s < steps; s++) {
                left[s] = (set >> s & 1) != 0 ? could[s] & 1 << person : could[s];
            }
        }

        /** Gives a step to a person and narrows who is left for the later ones: whether each has somebody left. */
        private boolean give(int step, int person) {
            who[step] = person;
            for (int later = step + 1; later < steps; later++) {
                int still = left[step * STEPS + later] & fits[fitPlace(step, later, person)];
                if (still == 0) {
                    return false;
                }
                left[(step + 1) * STEPS + later] = still;
            }
            return true;
        }

        /** Who is left for a step, as bits: only new ones, where MANY wants one from each step that is still to come. */
        private int leftFor(int step) {
            int bits = left[step * STEPS + step];
            for (int m = 0; m < manies; m++) {
                if (manyFirst[m] <= step && step <= manyLast[m]) {
                    int seen = seenFrom(manyFirst[m], step);
                    int lacking = manyLeast[m] - Integer.bitCount(seen);
                    int toCome = manyLast[m] - step + 1;
                    if (lacking > toCome) {
                        return 0;
                    }
                    bits = lacking == toCome ? bits & ~seen : bits;
                }
            }
            return bits;
        }

        private int seenFrom(int first, int step) {
            int seen = 0;
            for (int s = first; s < step; s++) {
                seen |= 1 << who[s];
            }
            return seen;
        }

        /** Whether it makes a difference to the later steps who does this one (of those who are left for it). */
        private boolean isTied(int step) {
            if ((pairedLater >> step & 1) != 0) {
                return true;
            }
            for (int m = 0; m < manies; m++) {
                if (manyFirst[m] <= step && step < manyLast[m]
                        && Integer.bitCount(seenFrom(manyFirst[m], step)) < manyLeast[m]) {
                    return true;
                }
            }
            return false;
        }

        private boolean isAnyFrom(int step) {
            if (step >= steps) {
                return true;
            }
            int bits = leftFor(step);
            boolean tied = isTied(step);
            for (int p = 0; p < people; p++) {
                if ((bits >> p & 1) != 0) {
                    if (give(step, p) && isAnyFrom(step + 1)) {
                        return true;
                    }
                    if (!tied) {
                        return false;
                    }
                }
            }
            return false;
        }

        private int countFrom(int step) {
            if (step >= steps) {
                return 1;
            }
            int bits = leftFor(step);
            boolean tied = isTied(step);
            int all = 0;
            for (int p = 0; p < people; p++) {
                if ((bits >> p & 1) != 0) {
                    int behind = give(step, p) ? countFrom(step + 1) : 0;
                    if (!tied) {
                        return behind * Integer.bitCount(bits);
                    }
                    all += behind;
                }
            }
            return all;
        }

        private void lookForCheaper(int step, int spent) {
            if (spent + costsToCome[step] >= leastCost) {
                return;
            }
            if (step >= steps) {
                leastCost = spent;
                System.arraycopy(who, 0, found, 0, STEPS);
                return;
            }
            int bits = leftFor(step);
            if (!isTied(step)) {
                bits = firstCheapest(step, bits);
            }
            for (int p = 0; p < people; p++) {
                if ((bits >> p & 1) != 0 && give(step, p)) {
                    lookForCheaper(step + 1, spent + costs[step * PEOPLE + p]);
                }
            }
        }

        /** Of these the first with the least cost, as bits. */
        private int firstCheapest(int step, int bits) {
            int least = TOO_DEAR;
            int cheapest = 0;
            for (int p = 0; p < people; p++) {
                int cost = costs[step * PEOPLE + p];
                if ((bits >> p & 1) != 0 && cost < least) {
                    least = cost;
                    cheapest = 1 << p;
                }
            }
            return cheapest;
        }
    }

    /** People who turn up and take what is open. */
    private static final class Turnout {
        private final int[] order = new int[PEOPLE];
        private final int[] waits = new int[PEOPLE];
        private int come = 0;

        /** Who does each step then, below 0 where nobody does. */
        int[] turnUp(Book book) {
            lineUp(book);
            int[] doers = book.signers();
            boolean goesOn = true;
            for (int round = 0; round <= STEPS && goesOn; round++) {
                goesOn = false;
                for (int k = 0; k < come; k++) {
                    goesOn = takeOne(book, order[k], doers) || goesOn;
                }
            }
            return doers;
        }

        private void lineUp(Book book) {
            come = 0;
            for (int p = 0; p < book.people; p++) {
                if (!book.persons[p].isAway(book.day)) {
                    putInLine(p, book.waitOf(p));
                }
            }
        }

        private void putInLine(int person, int wait) {
            int at = come;
            while (at > 0 && waits[at - 1] > wait) {
                waits[at] = waits[at - 1];
                order[at] = order[at - 1];
                at--;
            }
            waits[at] = wait;
            order[at] = person;
            come++;
        }

        private static boolean takeOne(Book book, int person, int[] doers) {
            for (int s = 0; s < book.steps; s++) {
                if (doers[s] < 0 && book.mayDo(person, s, book.day)) {
                    doers[s] = person;
                    if (book.firstBroken(doers) < 0) {
                        return true;
                    }
                    doers[s] = -1;
                }
            }
            return false;
        }
    }

    /** A row of booleans (as 0 and 1) or of bytes, or missing. */
    private static final class Sheet {
        int sort = MISSING;
        int places = 0;
        final byte[] row = new byte[PLACES];

        void begin(int itsSort, int itsPlaces) {
            sort = itsSort;
            places = itsPlaces;
            Arrays.fill(row, (byte) 0);
        }

        void takeFrom(Sheet other) {
            sort = other.sort;
            places = other.places;
            System.arraycopy(other.row, 0, row, 0, PLACES);
        }

        boolean hasPlace(int place) {
            return within(place, 0, places - 1);
        }

        boolean hasRun(int place, int many) {
            return place >= 0 && many >= 0 && place <= places - many;
        }
    }

    private static final class Slot {
        int thing = HOLDS_NOTHING;
        int number = 0;
        final Rule rule = new Rule();
        final Sheet sheet = new Sheet();
    }
}
