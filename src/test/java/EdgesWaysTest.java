/** Promises 23 to 32 at their edges: above each test stands what the document says there. */
public final class EdgesWaysTest {
    private static final int BAD = WhoSigns.BAD, NO = WhoSigns.NO, FULL = WhoSigns.FULL, NONE = WhoSigns.NONE;
    private static final int MIN = Twin.MIN, MAX = Twin.MAX;
    private static final int APART = 1, SAME = 2, OVER = 4, MANY = 5;
    private static final Twin BARE = Twin.bare(), FEW = Twin.few(), FULL_ONE = Twin.full();
    private static final Twin NO_WAY = new Twin("no way", EdgesWaysTest::withoutWay);

    public static void main(String[] args) {
        oneWayWithoutSteps();
        noWayWithoutPeople();
        mostWays();
        waysOnDays();
        whoSignedStays();
        brokenBySignatures();
        firstByOrder();
        cheapestOfSeveral();
        cheapestOfAllOrders();
        costOfOpenStepsAlone();
        wayOfStepsThatThereAre();
        noWayToTell();
        mustInEachInSomeInNone();
        mustOfSignedSteps();
        mustRefused();
        slyOfSteps();
        slyRefused();
        fewestMissing();
        missingAreNotAway();
        missingLeastAsBits();
        missingRefused();
        bearsUpToAll();
        bearsRefused();
        sixOffers();
        offersRefused();
        offersCleared();
        teachNobody();
        teachFewest();
        teachAsTheirOwn();
        teachNone();
        soonWithinSixty();
        soonBeforeTheLastDay();
        soonRefused();
        Due.end("EdgesWaysTest");
    }

    private static int[] outside(int least, int most) {
        return new int[] {least - 1, most + 1, MIN, MAX};
    }

    private static WhoSigns withoutWay() {
        WhoSigns x = Due.office(2, 3);
        x.rule(APART, 1, 0);
        x.rule(SAME, 10, 0);
        x.sign(2, 1);
        x.offer(0, 0);
        return x;
    }

    /** 23: (Without STEPS there is one.) */
    private static void oneWayWithoutSteps() {
        for (int people = 0; people <= 7; people++) {
            WhoSigns x = Due.office(people, 0);
            Due.is("23: one", x.ways(0), 1);
            Due.is("23: one", x.ways(999), 1);
            Due.is("24: the first costs nothing", x.way(0, -1), 0);
            Due.is("24: the cheapest costs nothing", x.way(1, -1), 0);
            Due.is("24: nobody does a step", x.way(0, 0), BAD);
            Due.is("27: no set breaks it", x.missing(), NONE);
            Due.is("28: all may be missing", x.bears(people), 1);
            Due.is("31: nothing to teach", x.teach(), 0);
            Due.is("32: today", x.soon(), 0);
            Due.is("36: nobody does anything", x.queue(-1), 0);
            Due.is("40: all trials are lucky", x.luck(60), 60);
            for (int p = 0; p < people; p++) {
                Due.is("25: none does a step", x.must(p), 0);
                Due.is("26: none does a step", x.sly(p), 0);
            }
        }
    }

    /** 23: a PERSON for each STEP. */
    private static void noWayWithoutPeople() {
        for (int steps = 1; steps <= 6; steps++) {
            WhoSigns x = Due.office(0, steps);
            Due.is("23: none", x.ways(0), 0);
            Due.is("24: none", x.way(0, -1), NONE);
            Due.is("24: none", x.way(1, steps - 1), NONE);
            Due.is("27: there is no way as it is", x.missing(), NO);
            Due.is("28: none", x.bears(0), 0);
            Due.is("31: without people", x.teach(), 0);
            Due.is("32: never", x.soon(), NONE);
            Due.is("36: nobody", x.queue(-1), 0);
            Due.is("36: nobody", x.queue(steps - 1), NONE);
            Due.is("40: no trial is lucky", x.luck(60), 0);
            Due.is("40: nothing is drawn", x.count(11), 1);
        }
    }

    /** 23: How many WAYS there are: up to 7 PEOPLE and 6 STEPS. */
    private static void mostWays() {
        for (int people = 1; people <= 7; people++) {
            int due = 1;
            for (int steps = 0; steps <= 6; steps++) {
                Due.is("23: " + people + " people, " + steps + " steps", Due.office(people, steps).ways(0), due);
                due *= people;
            }
        }
        WhoSigns x = Due.office(7, 6);
        for (int s = 1; s < 6; s++) {
            x.rule(SAME, s, 0);
        }
        Due.is("23: all by one", x.ways(0), 7);
        WhoSigns y = Due.office(7, 6);
        y.rule(MANY, 5, 6);
        Due.is("23: six of seven", y.ways(0), 5040);
        WhoSigns z = Due.office(7, 6);
        for (int s = 0; s < 5; s++) {
            z.rule(OVER, 10 * s + s + 1, 1);
        }
        Due.is("23: each over the one before", z.ways(0), 7);
    }

    /** 23: on a DAY (0 .. 999). BAD. */
    private static void waysOnDays() {
        WhoSigns x = Due.office(2, 1);
        x.away(0, 0, 0);
        x.away(1, 999, 999);
        Due.is("23: day 0", x.ways(0), 1);
        Due.is("23: day 1", x.ways(1), 2);
        Due.is("23: day 998", x.ways(998), 2);
        Due.is("23: day 999", x.ways(999), 1);
        x.days(5);
        Due.is("23: a day gone by", x.ways(0), 1);
        for (int v : outside(0, 999)) {
            FEW.refuses("23: day " + v, BAD, o -> o.ways(v));
            BARE.refuses("23: day " + v, BAD, o -> o.ways(v));
        }
    }

    /** 23: of a SIGNED STEP who signed it, of an open one somebody who MAY do it on that DAY. */
    private static void whoSignedStays() {
        WhoSigns x = Due.office(3, 2);
        x.sign(0, 1);
        Due.is("23: three for the open one", x.ways(0), 3);
        x.away(1, 0, 999);
        Due.is("23: who signed is away", x.ways(0), 2);
        Due.text(x, "may r=2");
        Due.is("23: who signed may no more", x.ways(0), 1);
        x.over();
        Due.is("23: open again", x.ways(0), 1);
        Due.text(x, "may 0");
        Due.is("23: nobody may", x.ways(0), 0);
        WhoSigns y = Due.office(2, 2);
        y.sign(0, 0);
        y.sign(1, 1);
        Due.text(y, "may 0");
        Due.is("23: all is signed", y.ways(999), 1);
        Due.is("24: all is signed", y.way(1, -1), 0);
        Due.is("24: all is signed", y.way(1, 1), 1);
    }

    /** 23: so that all RULES are KEPT. */
    private static void brokenBySignatures() {
        WhoSigns x = Due.office(3, 3);
        x.sign(0, 1);
        x.sign(1, 1);
        x.rule(APART, 1, 0);
        Due.is("23: those who signed break one", x.ways(0), 0);
        Due.is("24: none", x.way(0, 2), NONE);
        Due.is("25: none", x.must(1), 0);
        Due.is("26: none", x.sly(1), NONE);
        Due.is("27: none as it is", x.missing(), NO);
        Due.is("28: none", x.bears(0), 0);
        Due.is("32: never", x.soon(), NONE);
        Due.is("40: never", x.luck(60), 0);
        Due.is("31: no set does", x.teach(), NONE);
    }

    /** 24: WAYS are in order by the PERSON of STEP 0, then of STEP 1, the lesser numbers first. */
    private static void firstByOrder() {
        WhoSigns x = Due.office(7, 6);
        x.rule(MANY, 5, 6);
        for (int s = 0; s < 6; s++) {
            Due.is("24: the first, step " + s, x.way(0, s), s);
        }
        x.rule(OVER, 10, 6);
        int[] due = {6, 0, 1, 2, 3, 4};
        for (int s = 0; s < 6; s++) {
            Due.is("24: the first with the last ahead, step " + s, x.way(0, s), due[s]);
        }
        x.sign(5, 1);
        int[] signed = {6, 0, 2, 3, 4, 1};
        for (int s = 0; s < 6; s++) {
            Due.is("24: the first behind one that is signed, step " + s, x.way(0, s), signed[s]);
        }
    }

    /** 24: THE CHEAPEST: of several the first. */
    private static void cheapestOfSeveral() {
        WhoSigns x = Due.office(3, 3);
        Due.text(x, "cost 7");
        for (int s = 0; s < 3; s++) {
            Due.is("24: all cost alike, step " + s, x.way(1, s), 0);
        }
        x.rule(MANY, 2, 3);
        for (int s = 0; s < 3; s++) {
            Due.is("24: all cost alike, step " + s, x.way(1, s), s);
        }
        Due.text(x, "cost 9999*(1+r)");
        Due.is("24: all are held at the most", x.way(1, -1), 3 * 9999);
        Due.is("24: the first of them", x.way(1, 0), 0);
        Due.text(x, "cost 0-r");
        Due.is("24: all are held at the least", x.way(1, -1), 0);
        Due.is("24: the first of them", x.way(1, 2), 2);
        WhoSigns y = Due.office(2, 6);
        Due.text(y, "cost 9999");
        Due.is("24: the dearest there is", y.way(1, -1), 6 * 9999);
        Due.is("24: the first, as dear", y.way(0, -1), 6 * 9999);
    }

    /** 24: THE CHEAPEST: that with the least COST of all open STEPS together. */
    private static void cheapestOfAllOrders() {
        // the cheapest for step 0 alone leaves only a dear one for step 1
        WhoSigns x = new WhoSigns();
        x.person(0, 0, 0);
        x.person(0, 1, 0);
        x.person(0, 9, 0);
        x.step(-1, 0, 10);
        x.step(0, 0, 60);
        x.paper(0, 0, true);
        x.paper(2, 0, true);
        x.rule(APART, 1, 0);
        Due.is("24: together", x.way(1, -1), 20 + 60);
        Due.is("24: not the cheapest for step 0", x.way(1, 0), 1);
        Due.is("24: the first is dearer", x.way(0, -1), 10 + 600);
        Due.is("24: the first", x.way(0, 0), 0);
        x.away(0, 0, 0);
        Due.is("24: today", x.way(1, -1), 20 + 600);
        x.days(1);
        Due.is("24: today", x.way(1, -1), 20 + 60);
    }

    /** 24: COST of all open STEPS together. */
    private static void costOfOpenStepsAlone() {
        WhoSigns x = Due.office(2, 3);
        Due.is("24: three open ones", x.way(0, -1), 30);
        x.sign(1, 1);
        Due.is("24: two open ones", x.way(0, -1), 20);
        Due.is("24: two open ones", x.way(1, -1), 20);
        x.sign(0, 1);
        x.sign(2, 1);
        Due.is("24: no open one", x.way(0, -1), 0);
        Due.is("24: no open one", x.way(1, -1), 0);
        Due.is("24: who signed", x.way(1, 2), 1);
        x.over();
        Due.is("24: three open ones again", x.way(1, -1), 30);
    }

    /** 24: which 0, 1; what -1, 0 .. 5 (of STEPS that there are alone). BAD. */
    private static void wayOfStepsThatThereAre() {
        for (int v : outside(0, 1)) {
            FEW.refuses("24: which " + v, BAD, o -> o.way(v, -1));
            BARE.refuses("24: which " + v, BAD, o -> o.way(v, -1));
        }
        for (int v : outside(-1, 2)) {
            FEW.refuses("24: what " + v, BAD, o -> o.way(0, v));
            FEW.refuses("24: what " + v, BAD, o -> o.way(1, v));
        }
        for (int v : outside(-1, 5)) {
            FULL_ONE.refuses("24: what " + v, BAD, o -> o.way(0, v));
        }
        for (int v : outside(-1, -1)) {
            BARE.refuses("24: what " + v, BAD, o -> o.way(1, v));
        }
        for (int steps = 1; steps <= 6; steps++) {
            WhoSigns x = Due.office(1, steps);
            Due.is("24: the last step", x.way(0, steps - 1), 0);
            Due.is("24: no step", x.way(0, steps), BAD);
        }
    }

    /** 24: NONE: there is no WAY. */
    private static void noWayToTell() {
        for (int which = 0; which <= 1; which++) {
            int w = which;
            for (int what = -1; what < 3; what++) {
                int s = what;
                NO_WAY.refuses("24: what " + what, NONE, o -> o.way(w, s));
            }
            NO_WAY.refuses("24: BAD stands ahead of NONE", BAD, o -> o.way(w, 3));
            NO_WAY.refuses("24: BAD stands ahead of NONE", BAD, o -> o.way(w, -2));
        }
        NO_WAY.refuses("24: BAD stands ahead of NONE", BAD, o -> o.way(2, 0));
    }

    /** 25: MUST: 2, if in each WAY of today (and there is one), 1, if in some, else 0. */
    private static void mustInEachInSomeInNone() {
        WhoSigns x = Due.office(3, 2);
        x.away(0, 0, 0);
        Due.is("25: in none", x.must(0), 0);
        Due.is("25: in some", x.must(1), 1);
        x.rule(APART, 1, 0);
        Due.is("25: in each", x.must(1), 2);
        Due.is("25: in each", x.must(2), 2);
        x.days(1);
        Due.is("25: of today", x.must(1), 1);
        x.rule(SAME, 1, 0);
        for (int p = 0; p < 3; p++) {
            Due.is("25: there is none", x.must(p), 0);
        }
        WhoSigns alone = Due.office(1, 1);
        Due.is("25: the only one", alone.must(0), 2);
        // in each way one of the two does something, but it may be either
        WhoSigns either = Due.office(2, 2);
        either.rule(SAME, 1, 0);
        Due.is("25: either", either.must(0), 1);
        Due.is("25: either", either.must(1), 1);
    }

    /** 25: (a SIGNED one, too). */
    private static void mustOfSignedSteps() {
        WhoSigns x = Due.office(3, 2);
        x.sign(1, 2);
        Due.is("25: who signed", x.must(2), 2);
        Due.is("25: the others", x.must(0), 1);
        x.away(2, 0, 999);
        Due.is("25: who signed and is away", x.must(2), 2);
        x.sign(0, 0);
        Due.is("25: none of all that are signed", x.must(1), 0);
        x.over();
        Due.is("25: no more", x.must(2), 0);
    }

    /** 25: BAD. */
    private static void mustRefused() {
        for (int v : outside(0, 2)) {
            FEW.refuses("25: person " + v, BAD, o -> o.must(v));
        }
        for (int v : outside(0, 6)) {
            FULL_ONE.refuses("25: person " + v, BAD, o -> o.must(v));
        }
        for (int v : outside(0, 1)) {
            NO_WAY.refuses("25: person " + v, BAD, o -> o.must(v));
        }
    }

    /** 26: SLY: the most STEPS (likewise) that a PERSON does in some WAY of today. */
    private static void slyOfSteps() {
        for (int steps = 0; steps <= 6; steps++) {
            Due.is("26: all", Due.office(7, steps).sly(6), steps);
        }
        WhoSigns x = Due.office(7, 6);
        x.rule(MANY, 5, 6);
        Due.is("26: one", x.sly(3), 1);
        x.turns(0, APART);
        Due.is("26: all but one", x.sly(3), 5);
        x.sign(5, 3);
        Due.is("26: a signed one, too", x.sly(3), 5);
        x.away(3, 0, 0);
        Due.is("26: that one alone", x.sly(3), 1);
        x.away(4, 0, 0);
        Due.is("26: none", x.sly(4), 0);
        // two of three, but not those two that would be first
        WhoSigns y = Due.office(2, 3);
        y.rule(APART, 1, 0);
        y.rule(APART, 12, 0);
        Due.is("26: the outer two", y.sly(0), 2);
        Due.is("26: the outer two", y.sly(1), 2);
    }

    /** 26: BAD; NONE: there is no WAY. */
    private static void slyRefused() {
        for (int v : outside(0, 2)) {
            FEW.refuses("26: person " + v, BAD, o -> o.sly(v));
        }
        for (int p = 0; p < 2; p++) {
            int who = p;
            NO_WAY.refuses("26: no way", NONE, o -> o.sly(who));
        }
        for (int v : outside(0, 1)) {
            NO_WAY.refuses("26: BAD stands ahead of NONE", BAD, o -> o.sly(v));
        }
    }

    /** 27: the fewest people by whose MISSING there is no WAY today. NONE: by no set there is none. */
    private static void fewestMissing() {
        for (int people = 1; people <= 7; people++) {
            Due.is("27: all of " + people, Due.office(people, 1).missing(), (1 << people) - 1);
        }
        WhoSigns x = Due.office(7, 6);
        x.rule(MANY, 5, 6);
        Due.is("27: two of seven", x.missing(), 3);
        WhoSigns y = Due.office(6, 6);
        y.rule(MANY, 5, 6);
        Due.is("27: any of six", y.missing(), 1);
        WhoSigns z = Due.office(7, 2);
        z.step(-1, 6, 1);
        Due.is("27: the last alone", z.missing(), 64);
        z.sign(2, 6);
        Due.is("27: who signed need not be there", z.missing(), 127);
        z.sign(0, 0);
        z.sign(1, 1);
        Due.is("27: all is signed", z.missing(), NONE);
    }

    /** 27: If people are MISSING, they do no open STEP (but are not AWAY). */
    private static void missingAreNotAway() {
        WhoSigns x = Due.office(2, 0);
        x.step(5, 0, 1);
        x.paper(1, 5, true);
        x.stand(0, 1, 999);
        Due.is("27: nobody stands for them", x.missing(), 2);
        Due.is("28: nobody stands for them", x.bears(1), 0);
        x.away(1, 0, 0);
        Due.is("27: who is away has one that stands for them", x.missing(), 1);
    }

    /** 27: of several sets the least as bits. */
    private static void missingLeastAsBits() {
        WhoSigns x = Due.office(7, 0);
        x.step(-1, 5, 1);
        Due.is("27: five and six", x.missing(), 96);
        x.step(0, 0, 1);
        x.paper(2, 0, true);
        x.paper(3, 0, true);
        Due.is("27: two and three, less as bits", x.missing(), 12);
        x.step(1, 0, 1);
        x.paper(4, 1, true);
        Due.is("27: four alone, fewer", x.missing(), 16);
        x.step(2, 0, 1);
        x.paper(0, 2, true);
        Due.is("27: nought alone, less as bits", x.missing(), 1);
    }

    /** 27: NO: there is no WAY as it is. */
    private static void missingRefused() {
        NO_WAY.refuses("27: no way", NO, WhoSigns::missing);
        WhoSigns x = Due.office(3, 1);
        Due.text(x, "may d");
        Due.is("27: not today", x.missing(), NO);
        x.days(1);
        Due.is("27: today", x.missing(), 7);
    }

    /** 28: Whether any n (no more than PEOPLE) may be MISSING. */
    private static void bearsUpToAll() {
        for (int people = 1; people <= 7; people++) {
            WhoSigns x = Due.office(people, 2);
            for (int n = 0; n <= people; n++) {
                Due.is("28: " + n + " of " + people, x.bears(n), n < people ? 1 : 0);
            }
            x.rule(APART, 1, 0);
            for (int n = 0; n <= people; n++) {
                Due.is("28: " + n + " of " + people + ", two are needed", x.bears(n), n < people - 1 ? 1 : 0);
            }
            Due.is("28: one more", x.bears(people + 1), BAD);
        }
        Due.is("28: none of none", Due.office(0, 0).bears(0), 1);
        Due.is("28: none of none, with a step", Due.office(0, 1).bears(0), 0);
        WhoSigns x = Due.office(7, 1);
        x.sign(0, 0);
        Due.is("28: all, if all is signed", x.bears(7), 1);
    }

    /** 28: n (0 .. 7, no more than PEOPLE). BAD. */
    private static void bearsRefused() {
        for (int v : outside(0, 3)) {
            FEW.refuses("28: " + v + " of three", BAD, o -> o.bears(v));
        }
        for (int v : outside(0, 7)) {
            FULL_ONE.refuses("28: " + v + " of seven", BAD, o -> o.bears(v));
        }
        for (int v : outside(0, 0)) {
            BARE.refuses("28: " + v + " of none", BAD, o -> o.bears(v));
        }
    }

    /** 29: OFFERS, 6 at most, numbered from 0. FULL. */
    private static void sixOffers() {
        WhoSigns x = Due.office(1, 0);
        for (int k = 0; k < 6; k++) {
            Due.is("29: numbered from 0, like ones too", x.offer(0, 7), k);
            Due.is("53: so many", x.count(5), k + 1);
        }
        FULL_ONE.refuses("29: the seventh", FULL, o -> o.offer(0, 0));
        FULL_ONE.refuses("29: BAD stands ahead of FULL", BAD, o -> o.offer(7, 0));
        FULL_ONE.refuses("29: BAD stands ahead of FULL", BAD, o -> o.offer(0, 8));
    }

    /** 29: a PERSON and a PAPER. BAD. */
    private static void offersRefused() {
        for (int v : outside(0, 2)) {
            FEW.refuses("29: person " + v, BAD, o -> o.offer(v, 0));
        }
        for (int v : outside(0, 7)) {
            FEW.refuses("29: paper " + v, BAD, o -> o.offer(0, v));
        }
        WhoSigns x = Due.office(7, 0);
        x.paper(6, 7, true);
        Due.is("29: one that they have", x.offer(6, 7), 0);
        Due.is("29: paper 0", x.offer(6, 0), 1);
    }

    /** 30: There are no OFFERS any more: how many there were. */
    private static void offersCleared() {
        WhoSigns x = FULL_ONE.make();
        Due.is("30: six", x.clear(), 6);
        Due.is("53: none", x.count(5), 0);
        Due.is("30: none", x.clear(), 0);
        Due.is("29: from 0 again", x.offer(0, 0), 0);
        Due.is("30: one", x.clear(), 1);
        WhoSigns y = Due.office(2, 0);
        y.step(0, 0, 1);
        y.offer(0, 0);
        y.offer(1, 0);
        Due.is("31: both", y.teach(), 3);
        y.clear();
        Due.is("31: none any more", y.teach(), NONE);
    }

    /** 31: 0 without PEOPLE. */
    private static void teachNobody() {
        BARE.refuses("31: without all", 0, WhoSigns::teach);
        Due.is("31: with steps", Due.office(0, 6).teach(), 0);
        WhoSigns x = new WhoSigns();
        x.step(0, 9, 1);
        Due.text(x, "may 0");
        Due.is("31: with a step that none may do", x.teach(), 0);
    }

    /** 31: the fewest OFFERS by which any 1 may be MISSING; of several sets the least as bits. */
    private static void teachFewest() {
        WhoSigns x = Due.office(3, 1);
        x.offer(0, 0);
        Due.is("31: none is needed", x.teach(), 0);
        x.step(4, 0, 1);
        Due.is("31: one is too few", x.teach(), NONE);
        x.offer(0, 4);
        x.offer(0, 4);
        Due.is("31: one of them twice", x.teach(), NONE);
        x.offer(2, 4);
        Due.is("31: the first of like ones", x.teach(), 2 + 8);
        x.offer(1, 4);
        Due.is("31: the least as bits", x.teach(), 2 + 8);
        x.paper(1, 4, true);
        Due.is("31: one alone", x.teach(), 2);
        x.offer(1, 5);
        Due.is("53: six", x.count(5), 6);
        x.paper(2, 4, true);
        Due.is("31: none", x.teach(), 0);
        WhoSigns y = Due.office(7, 6);
        for (int s = 0; s < 6; s++) {
            y.offer(6 - s, s);
        }
        Due.is("31: none of six", y.teach(), 0);
        WhoSigns z = Due.office(2, 0);
        for (int s = 0; s < 3; s++) {
            z.step(s, 0, 1);
            z.offer(0, s);
            z.offer(1, s);
        }
        Due.is("31: all six", z.teach(), 63);
        FULL_ONE.refuses("31: nothing is changed by it", 32, WhoSigns::teach);
    }

    /** 31: these PEOPLE having these PAPERS, too, as their own. */
    private static void teachAsTheirOwn() {
        WhoSigns x = Due.office(3, 0);
        x.step(0, 0, 1);
        x.away(0, 0, 5);
        x.stand(1, 0, 0);
        x.stand(2, 0, 0);
        x.offer(1, 0);
        x.offer(2, 0);
        x.offer(0, 0);
        Due.is("31: two stand for one", x.teach(), 4);
        x.days(1);
        Due.is("31: but today none does", x.teach(), 3);
    }

    /** 31: NONE: no set of them does. */
    private static void teachNone() {
        NO_WAY.refuses("31: none does", NONE, WhoSigns::teach);
        Due.is("31: one alone may not be missing", Due.office(1, 1).teach(), NONE);
        WhoSigns x = Due.office(2, 2);
        x.rule(APART, 1, 0);
        for (int k = 0; k < 6; k++) {
            x.offer(k % 2, k);
        }
        Due.is("31: two are needed of two", x.teach(), NONE);
    }

    /** 32: the first DAY, from this one on (60 of them). */
    private static void soonWithinSixty() {
        WhoSigns x = Due.office(1, 1);
        Due.is("32: today", x.soon(), 0);
        for (int last : new int[] {0, 1, 57, 58}) {
            x.away(0, 0, last);
            Due.is("32: away to " + last, x.soon(), last + 1);
        }
        x.away(0, 0, 59);
        Due.is("32: the 61st day", x.soon(), NONE);
        x.days(1);
        Due.is("32: from this one on", x.soon(), 60);
        x.away(0, 0, 0);
        Due.is("32: no day gone by", x.soon(), 1);
        Due.text(x, "may d=60");
        Due.is("32: the last of 60", x.soon(), 60);
        Due.text(x, "may d=61");
        Due.is("32: behind them", x.soon(), NONE);
        Due.text(x, "may d=0");
        Due.is("32: yesterday", x.soon(), NONE);
        Due.text(x, "may d=30|d=20");
        Due.is("32: the first", x.soon(), 20);
    }

    /** 32: 999 at most. */
    private static void soonBeforeTheLastDay() {
        WhoSigns x = Due.office(1, 1);
        for (int k = 0; k < 9; k++) {
            x.days(99);
        }
        x.days(49);
        Due.is("day 940", x.count(10), 940);
        x.away(0, 0, 998);
        Due.is("32: the last of 60 is the last day", x.soon(), 999);
        x.away(0, 0, 999);
        Due.is("32: none", x.soon(), NONE);
        x.days(1);
        Due.is("32: none, of 59", x.soon(), NONE);
        x.away(0, 0, 998);
        x.days(57);
        Due.is("32: tomorrow", x.soon(), 999);
        x.days(1);
        Due.is("32: on the last day", x.soon(), 999);
        x.away(0, 999, 999);
        Due.is("32: not on the last day", x.soon(), NONE);
        Due.text(x, "may d>999");
        Due.is("32: no day behind it", x.soon(), NONE);
    }

    /** 32: NONE. */
    private static void soonRefused() {
        NO_WAY.refuses("32: never", NONE, WhoSigns::soon);
        FULL_ONE.refuses("32: it changes nothing", 999, WhoSigns::soon);
    }
}
