/** Promises 1 to 11 at their edges: above each test stands what the document says there. */
public final class EdgesPeopleTest {
    private static final int BAD = WhoSigns.BAD, NO = WhoSigns.NO, FULL = WhoSigns.FULL, NONE = WhoSigns.NONE;
    private static final int NOTHING = WhoSigns.NOTHING, MIN = Twin.MIN, MAX = Twin.MAX;
    private static final Twin BARE_ONE = Twin.bare(), FEW = Twin.few(), FULL_ONE = Twin.full();

    public static void main(String[] args) {
        nobodyIsThere();
        nothingElseIsThere();
        sevenPeople();
        officesRanksKins();
        personsThatAreNot();
        whatsThatAreNot();
        papersAsBits();
        waitsOfAnyInt();
        papersNewOrNot();
        papersThatAreNot();
        awayOnBothDays();
        awayNever();
        awayRefused();
        standsForOthers();
        standsForNone();
        standsTillThatDayToo();
        standsForOneAwayOnIt();
        standsForTheirOwnPapers();
        standsRefused();
        sixSteps();
        stepsWant();
        stepsTold();
        daysGoBy();
        noDayBehindTheLast();
        mayOnDays();
        rankOfLeastOrMore();
        whatIsNotZero();
        costsAreHeld();
        costsWithoutText();
        costsRefused();
        Due.end("EdgesPeopleTest");
    }

    /** Numbers just outside and far outside of a range. */
    private static int[] outside(int least, int most) {
        return new int[] {least - 1, most + 1, MIN, MAX};
    }

    /** 1: no PEOPLE, no STEPS. */
    private static void nobodyIsThere() {
        Twin x = BARE_ONE;
        x.refuses("1: personTold", BAD, o -> o.personTold(0, 0));
        x.refuses("1: paper", BAD, o -> o.paper(0, 0, true));
        x.refuses("1: away", BAD, o -> o.away(0, 0, 0));
        x.refuses("1: stand", BAD, o -> o.stand(0, -1, 0));
        x.refuses("1: stepTold", BAD, o -> o.stepTold(0, 0));
        x.refuses("1: may", BAD, o -> o.may(0, 0, 0));
        x.refuses("1: cost", BAD, o -> o.cost(0, 0));
        x.refuses("1: must", BAD, o -> o.must(0));
        x.refuses("1: sly", BAD, o -> o.sly(0));
        x.refuses("1: offer", BAD, o -> o.offer(0, 0));
        x.refuses("1: sign", BAD, o -> o.sign(0, 0));
        x.refuses("1: papers", BAD, o -> o.papers(0, 0));
        x.refuses("1: way", BAD, o -> o.way(0, 0));
        x.refuses("1: queue", BAD, o -> o.queue(0));
        x.refuses("1: bears", BAD, o -> o.bears(1));
    }

    /** 1: As told. */
    private static void nothingElseIsThere() {
        Twin x = BARE_ONE;
        x.refuses("1: rule", BAD, o -> o.rule(0, 1, 0));
        x.refuses("1: told", BAD, o -> o.told(0, 0));
        x.refuses("1: as", BAD, o -> o.as(0, 0));
        x.refuses("1: turns", BAD, o -> o.turns(0, 0));
        x.refuses("1: drop", BAD, o -> o.drop(0));
        x.refuses("1: keeps", BAD, o -> o.keeps(0, 0, 0));
        x.refuses("1: textTold", BAD, o -> o.textTold(0, 0));
        x.refuses("1: why", NONE, o -> o.why(0));
        x.refuses("1: judge", NONE, WhoSigns::judge);
        x.refuses("1: log", NONE, o -> o.log(0, 0));
        x.refuses("1: audit", NONE, o -> o.audit(0));
        x.refuses("1: audit, how many", 0, o -> o.audit(-1));
        x.refuses("1: clear", 0, WhoSigns::clear);
        x.refuses("1: over", 0, WhoSigns::over);
        x.refuses("1: teach", 0, WhoSigns::teach);
        x.refuses("1: soon", 0, WhoSigns::soon);
        x.refuses("1: queue", 0, o -> o.queue(-1));
        x.refuses("1: ways", 1, o -> o.ways(0));
        x.refuses("1: a way", 0, o -> o.way(1, -1));
        x.refuses("1: luck", 3, o -> o.luck(3));
        x.refuses("1: back", NO, WhoSigns::back);
        x.refuses("1: check", NO, o -> o.check(1));
        x.refuses("1: text", -100, WhoSigns::text);
        for (int k = 0; k < 4; k++) {
            int sheet = k;
            x.refuses("1: mark", NOTHING, o -> o.mark(sheet, 0, 1));
        }
        for (int k = 0; k < 5; k++) {
            int slot = k;
            x.refuses("1: item", NOTHING, o -> o.item(slot, 0));
            x.refuses("1: ask", NOTHING, o -> o.ask(slot, 0));
            x.refuses("1: rest", NOTHING, o -> o.rest(slot, 1));
        }
        WhoSigns made = x.make();
        int[] counts = {0, 0, 0, 0, 0, 0, 0, 0, 0, 0, 0, 1};
        for (int what = 0; what < counts.length; what++) {
            Due.is("1: count " + what, made.count(what), counts[what]);
        }
    }

    /** 2: PEOPLE, 7 at most, numbered from 0. FULL. */
    private static void sevenPeople() {
        WhoSigns x = new WhoSigns();
        for (int p = 0; p < 7; p++) {
            Due.is("2: numbered from 0", x.person(0, 0, 0), p);
            Due.is("2: so many", x.count(0), p + 1);
        }
        FULL_ONE.refuses("2: the eighth", FULL, o -> o.person(0, 0, 0));
        FULL_ONE.refuses("2: BAD stands ahead of FULL", BAD, o -> o.person(0, 0, 10));
    }

    /** 2: an OFFICE 0 .. 4, a RANK 0 .. 9, a KIN 0 .. 9. BAD. */
    private static void officesRanksKins() {
        WhoSigns x = new WhoSigns();
        Due.is("2: the least", x.person(0, 0, 0), 0);
        Due.is("2: the greatest", x.person(4, 9, 9), 1);
        int[] greatest = {4, 9, 9};
        for (int what = 0; what < 3; what++) {
            Due.is("2: the least is told", x.personTold(0, what), 0);
            Due.is("2: the greatest is told", x.personTold(1, what), greatest[what]);
        }
        for (int v : outside(0, 4)) {
            FEW.refuses("2: office " + v, BAD, o -> o.person(v, 0, 0));
        }
        for (int v : outside(0, 9)) {
            FEW.refuses("2: rank " + v, BAD, o -> o.person(0, v, 0));
            FEW.refuses("2: kin " + v, BAD, o -> o.person(0, 0, v));
        }
    }

    /** 3 .. 6, 10, 11: BAD, of people that there are not. */
    private static void personsThatAreNot() {
        for (int v : outside(0, 2)) {
            FEW.refuses("3: person " + v, BAD, o -> o.personTold(v, 0));
            FEW.refuses("4: person " + v, BAD, o -> o.paper(v, 0, true));
            FEW.refuses("5: person " + v, BAD, o -> o.away(v, 0, 0));
            FEW.refuses("6: person " + v, BAD, o -> o.stand(v, 1, 0));
            FEW.refuses("6: person " + v + " for none", BAD, o -> o.stand(v, -1, 0));
            FEW.refuses("10: person " + v, BAD, o -> o.may(v, 0, 0));
            FEW.refuses("11: person " + v, BAD, o -> o.cost(v, 0));
        }
        for (int v : outside(0, 6)) {
            FULL_ONE.refuses("3: person " + v, BAD, o -> o.personTold(v, 0));
            FULL_ONE.refuses("5: person " + v, BAD, o -> o.away(v, 0, 0));
            FULL_ONE.refuses("10: person " + v, BAD, o -> o.may(v, 0, 0));
        }
    }

    /** 3: what 0 .. 7. BAD. */
    private static void whatsThatAreNot() {
        for (int v : outside(0, 7)) {
            FEW.refuses("3: what " + v, BAD, o -> o.personTold(0, v));
        }
        WhoSigns x = new WhoSigns();
        x.person(3, 6, 5);
        int[] first = {3, 6, 5, 0, 0, NONE, NONE, 60};
        for (int what = 0; what <= 7; what++) {
            Due.is("3: what " + what + ", at first", x.personTold(0, what), first[what]);
        }
    }

    /** 3: PAPERS (their own, as bits). */
    private static void papersAsBits() {
        WhoSigns x = Due.office(2, 0);
        for (int paper = 0; paper < 8; paper++) {
            x.paper(0, paper, true);
            Due.is("3: papers up to " + paper, x.personTold(0, 3), (2 << paper) - 1);
        }
        x.stand(1, 0, 999);
        x.away(0, 0, 999);
        Due.is("3: their own alone", x.personTold(1, 3), 0);
    }

    /** 3: WAIT (any int); without a TEXT 10 times RANK. */
    private static void waitsOfAnyInt() {
        WhoSigns x = new WhoSigns();
        x.person(0, 0, 0);
        x.person(0, 9, 0);
        Due.is("3: of rank 0", x.personTold(0, 7), 0);
        Due.is("3: of rank 9", x.personTold(1, 7), 90);
        Due.text(x, "wait 8192*4*8192*8");
        Due.is("3: the least int", x.personTold(0, 7), MIN);
        Due.text(x, "wait 8192*4*8192*8-1");
        Due.is("3: the greatest int", x.personTold(0, 7), MAX);
        Due.text(x, "wait 0-1");
        Due.is("3: below 0", x.personTold(1, 7), -1);
    }

    /** 4: 1 if that is new, else 0. */
    private static void papersNewOrNot() {
        WhoSigns x = Due.office(1, 0);
        for (int paper : new int[] {0, 7}) {
            Due.is("4: not had", x.paper(0, paper, false), 0);
            Due.is("4: had", x.paper(0, paper, true), 1);
            Due.is("4: had before", x.paper(0, paper, true), 0);
            Due.is("4: no more", x.paper(0, paper, false), 1);
            Due.is("4: not had before", x.paper(0, paper, false), 0);
        }
    }

    /** 4: PAPERS (of 0 .. 7). BAD. */
    private static void papersThatAreNot() {
        for (int v : outside(0, 7)) {
            FEW.refuses("4: paper " + v, BAD, o -> o.paper(0, v, true));
            FEW.refuses("4: no paper " + v, BAD, o -> o.paper(0, v, false));
        }
        // a shift by 32 and more would meet other papers
        FEW.refuses("4: paper 32", BAD, o -> o.paper(1, 32, true));
    }

    /** 5: AWAY from a DAY to a DAY (both of them): whether they are so today. */
    private static void awayOnBothDays() {
        WhoSigns x = Due.office(1, 1);
        Due.is("5: not at first", x.personTold(0, 4), 0);
        Due.is("5: from 1", x.away(0, 1, 2), 0);
        int[] due = {0, 1, 1, 0};
        for (int day = 0; day < 4; day++) {
            Due.is("5: away on " + day, x.personTold(0, 4), due[day]);
            Due.is("5: count on " + day, x.count(7), due[day]);
            Due.is("5: may on " + day, x.may(0, 0, day), 1 - due[day]);
            x.days(1);
        }
        Due.is("5: up to yesterday", x.away(0, 0, 3), 0);
        Due.is("5: up to today", x.away(0, 0, 4), 1);
        Due.is("5: from today", x.away(0, 4, 999), 1);
        Due.is("5: today alone", x.away(0, 4, 4), 1);
        Due.is("5: from tomorrow", x.away(0, 5, 999), 0);
        Due.is("5: the last day alone", x.away(0, 999, 999), 0);
        Due.is("5: the last day", x.may(0, 0, 999), 0);
        Due.is("5: the day before it", x.may(0, 0, 998), 1);
        Due.is("5: what was told before is no more", x.may(0, 0, 4), 1);
    }

    /** 5: to below from: never. */
    private static void awayNever() {
        WhoSigns x = Due.office(1, 1);
        x.away(0, 0, 999);
        Due.is("5: to one below", x.away(0, 1, 0), 0);
        Due.is("5: on its to", x.may(0, 0, 0), 1);
        Due.is("5: on its from", x.may(0, 0, 1), 1);
        Due.is("5: to far below", x.away(0, 999, 0), 0);
        for (int day = 0; day <= 999; day += 111) {
            Due.is("5: never", x.may(0, 0, day), 1);
        }
    }

    /** 5: 0 .. 999 each. BAD. */
    private static void awayRefused() {
        for (int v : outside(0, 999)) {
            FEW.refuses("5: from " + v, BAD, o -> o.away(0, v, 999));
            FEW.refuses("5: to " + v, BAD, o -> o.away(0, 0, v));
        }
        FEW.refuses("5: never, but no days", BAD, o -> o.away(0, 5, -1));
        FEW.refuses("5: never, but no days", BAD, o -> o.away(0, 1000, 5));
    }

    /** 6: for whom they were (NONE). 3: as told latest. */
    private static void standsForOthers() {
        WhoSigns x = Due.office(3, 0);
        Due.is("6: for none at first", x.stand(2, 0, 0), NONE);
        Due.is("6: told", x.personTold(2, 5), 0);
        Due.is("6: till 0", x.personTold(2, 6), 0);
        Due.is("6: was for 0", x.stand(2, 1, 999), 0);
        Due.is("6: told", x.personTold(2, 5), 1);
        Due.is("6: till 999", x.personTold(2, 6), 999);
        Due.is("6: was for 1", x.stand(2, 1, 3), 1);
        Due.is("6: till 3", x.personTold(2, 6), 3);
        x.days(4);
        Due.is("3: as told latest", x.personTold(2, 5), 1);
        Due.is("3: as told latest", x.personTold(2, 6), 3);
        Due.is("6: each for the other", x.stand(1, 2, 9), NONE);
    }

    /** 6: -1: for none; till any. */
    private static void standsForNone() {
        for (int till : new int[] {-1, 0, 999, 1000, MIN, MAX}) {
            WhoSigns x = Due.office(2, 0);
            x.stand(0, 1, 5);
            Due.is("6: for none till " + till, x.stand(0, -1, till), 1);
            Due.is("6: for none", x.personTold(0, 5), NONE);
            Due.is("6: till none", x.personTold(0, 6), NONE);
            Due.is("6: was for none", x.stand(0, -1, till), NONE);
        }
    }

    private static WhoSigns standing(int till) {
        WhoSigns x = Due.office(3, 0);
        x.step(7, 0, 1);
        x.paper(1, 7, true);
        x.away(1, 10, 20);
        x.stand(0, 1, till);
        return x;
    }

    /** 10: STANDING, till that DAY or a later one. */
    private static void standsTillThatDayToo() {
        WhoSigns x = standing(15);
        Due.is("10: till a later day", x.may(0, 0, 14), 1);
        Due.is("10: till that day", x.may(0, 0, 15), 1);
        Due.is("10: no longer", x.may(0, 0, 16), 0);
        WhoSigns y = standing(0);
        y.away(1, 0, 999);
        Due.is("10: till day 0", y.may(0, 0, 0), 1);
        Due.is("10: till day 0", y.may(0, 0, 1), 0);
        y.stand(0, 1, 999);
        Due.is("10: till day 999", y.may(0, 0, 999), 1);
        x.days(20);
        Due.is("10: the day that is asked, not today", x.may(0, 0, 15), 1);
    }

    /** 10: for one who is AWAY on it. */
    private static void standsForOneAwayOnIt() {
        WhoSigns x = standing(999);
        Due.is("10: the day before", x.may(0, 0, 9), 0);
        Due.is("10: the first", x.may(0, 0, 10), 1);
        Due.is("10: the last", x.may(0, 0, 20), 1);
        Due.is("10: the day behind", x.may(0, 0, 21), 0);
        x.away(0, 12, 12);
        Due.is("10: away themselves", x.may(0, 0, 12), 0);
    }

    /** 10: and whose own it is. */
    private static void standsForTheirOwnPapers() {
        WhoSigns x = standing(999);
        x.stand(2, 0, 999);
        x.away(0, 10, 10);
        Due.is("10: not for one who stands for another one", x.may(2, 0, 10), 0);
        x.paper(0, 7, true);
        Due.is("10: but if it is their own", x.may(2, 0, 10), 1);
        x.away(0, 11, 11);
        Due.is("10: their own, whatever they stand for", x.may(0, 0, 5), 1);
        x.paper(0, 7, false);
        x.paper(1, 7, false);
        Due.is("10: it is gone", x.may(0, 0, 10), 0);
        Due.is("10: for nobody", x.may(2, 0, 10), 0);
    }

    /** 6: till a DAY (0 .. 999). BAD: also for themselves. */
    private static void standsRefused() {
        for (int v : outside(0, 999)) {
            FEW.refuses("6: till " + v, BAD, o -> o.stand(0, 1, v));
        }
        for (int v : outside(-1, 2)) {
            FEW.refuses("6: for " + v, BAD, o -> o.stand(0, v, 5));
        }
        for (int p = 0; p < 3; p++) {
            int who = p;
            FEW.refuses("6: for themselves", BAD, o -> o.stand(who, who, 5));
        }
    }

    /** 7: STEPS, 6 at most, numbered from 0. FULL. */
    private static void sixSteps() {
        WhoSigns x = new WhoSigns();
        for (int s = 0; s < 6; s++) {
            Due.is("7: numbered from 0", x.step(-1, 0, 1), s);
            Due.is("7: so many", x.count(1), s + 1);
            Due.is("7: open at first", x.stepTold(s, 3), NONE);
        }
        FULL_ONE.refuses("7: the seventh", FULL, o -> o.step(-1, 0, 1));
        FULL_ONE.refuses("7: BAD stands ahead of FULL", BAD, o -> o.step(8, 0, 1));
    }

    /** 7: a PAPER (0 .. 7) or none (-1), LEAST 0 .. 9, MINUTES 1 .. 60. BAD. */
    private static void stepsWant() {
        WhoSigns x = new WhoSigns();
        Due.is("7: the least", x.step(-1, 0, 1), 0);
        Due.is("7: paper 0", x.step(0, 0, 1), 1);
        Due.is("7: the greatest", x.step(7, 9, 60), 2);
        int[][] due = {{NONE, 0, 1}, {0, 0, 1}, {7, 9, 60}};
        for (int s = 0; s < 3; s++) {
            for (int what = 0; what < 3; what++) {
                Due.is("8: step " + s + ", what " + what, x.stepTold(s, what), due[s][what]);
            }
        }
        for (int v : outside(-1, 7)) {
            FEW.refuses("7: paper " + v, BAD, o -> o.step(v, 0, 1));
        }
        for (int v : outside(0, 9)) {
            FEW.refuses("7: least " + v, BAD, o -> o.step(0, v, 1));
        }
        for (int v : outside(1, 60)) {
            FEW.refuses("7: minutes " + v, BAD, o -> o.step(0, 0, v));
        }
    }

    /** 8: what 0 .. 4, of STEPS that there are. BAD. */
    private static void stepsTold() {
        for (int v : outside(0, 4)) {
            FEW.refuses("8: what " + v, BAD, o -> o.stepTold(0, v));
        }
        for (int v : outside(0, 2)) {
            FEW.refuses("8: step " + v, BAD, o -> o.stepTold(v, 0));
            FEW.refuses("10: step " + v, BAD, o -> o.may(0, v, 0));
            FEW.refuses("11: step " + v, BAD, o -> o.cost(0, v));
        }
        for (int v : outside(0, 5)) {
            FULL_ONE.refuses("8: step " + v, BAD, o -> o.stepTold(v, 0));
            FULL_ONE.refuses("11: step " + v, BAD, o -> o.cost(0, v));
        }
        WhoSigns signed = Due.office(7, 2);
        signed.sign(0, 0);
        signed.sign(1, 6);
        Due.is("8: signed by the first", signed.stepTold(0, 3), 0);
        Due.is("8: signed by the last", signed.stepTold(1, 3), 6);
        Due.is("8: nobody may, nobody is there", Due.office(0, 1).stepTold(0, 4), 0);
        WhoSigns x = Due.office(7, 1);
        Due.is("8: all may", x.stepTold(0, 4), 7);
        x.sign(0, 6);
        Due.is("8: all may, though it is signed", x.stepTold(0, 4), 7);
        x.away(6, 0, 0);
        Due.is("8: one is away", x.stepTold(0, 4), 6);
        x.days(1);
        Due.is("8: today", x.stepTold(0, 4), 7);
    }

    /** 9: n (1 .. 99) DAYS go by. BAD. */
    private static void daysGoBy() {
        WhoSigns x = new WhoSigns();
        Due.is("9: one", x.days(1), 1);
        Due.is("9: ninety-nine", x.days(99), 100);
        Due.is("9: the DAY", x.count(10), 100);
        for (int v : outside(1, 99)) {
            FEW.refuses("9: " + v, BAD, o -> o.days(v));
            FULL_ONE.refuses("9: BAD stands ahead of FULL, " + v, BAD, o -> o.days(v));
        }
    }

    /** 9: FULL: above 999. */
    private static void noDayBehindTheLast() {
        WhoSigns x = new WhoSigns();
        for (int k = 0; k < 10; k++) {
            x.days(99);
        }
        Due.is("9: 1000 would be", x.days(10), FULL);
        Due.is("9: 1089 would be", x.days(99), FULL);
        Due.is("9: it stays", x.count(10), 990);
        Due.is("9: 999", x.days(9), 999);
        FULL_ONE.refuses("9: on the last day", FULL, o -> o.days(1));
        FULL_ONE.refuses("9: on the last day", FULL, o -> o.days(99));
    }

    /** 10: on a DAY (0 .. 999). BAD. */
    private static void mayOnDays() {
        WhoSigns x = Due.office(1, 1);
        Due.is("10: day 0", x.may(0, 0, 0), 1);
        Due.is("10: day 999", x.may(0, 0, 999), 1);
        Due.text(x, "may d=0|d=999");
        Due.is("10: day 0 is given", x.may(0, 0, 0), 1);
        Due.is("10: day 1 is given", x.may(0, 0, 1), 0);
        Due.is("10: day 999 is given", x.may(0, 0, 999), 1);
        for (int v : outside(0, 999)) {
            FEW.refuses("10: day " + v, BAD, o -> o.may(0, 0, v));
        }
    }

    /** 10: have RANK LEAST or more; HAVE its PAPER (if it wants one). */
    private static void rankOfLeastOrMore() {
        for (int least = 0; least <= 9; least++) {
            WhoSigns x = new WhoSigns();
            x.step(-1, least, 1);
            x.step(0, least, 1);
            for (int p = 0; p < 7; p++) {
                int rank = p < 3 ? Math.max(0, Math.min(9, least + p - 1)) : 3 * (p - 3);
                x.person(0, rank, 0);
                Due.is("10: rank " + rank + " of " + least, x.may(p, 0, 0), rank >= least ? 1 : 0);
                Due.is("10: without its paper", x.may(p, 1, 0), 0);
                x.paper(p, 0, true);
                Due.is("10: rank " + rank + " of " + least + ", with its paper", x.may(p, 1, 0), rank >= least ? 1 : 0);
            }
        }
    }

    /** 10: and what may gives for them is not 0 (without a TEXT: it is 1). */
    private static void whatIsNotZero() {
        String[] texts = {"0", "1", "2", "0-1", "8192*4*8192*8", "8192*8*8192*8", "1-1", "k", "k-1", "d-5", "r-3", "o-4"};
        int[] due = {0, 1, 1, 1, 1, 0, 0, 0, 1, 0, 0, 0};
        for (int k = 0; k < texts.length; k++) {
            WhoSigns x = new WhoSigns();
            x.person(4, 3, 0);
            x.step(-1, 0, 1);
            Due.is("10: without a text", x.may(0, 0, 5), 1);
            Due.text(x, "may " + texts[k]);
            Due.is("10: may gives " + texts[k], x.may(0, 0, 5), due[k]);
        }
        WhoSigns x = Due.office(1, 1);
        x.away(0, 0, 0);
        x.step(0, 0, 1);
        x.step(-1, 9, 1);
        Due.text(x, "may 1");
        Due.is("10: the text alone does not do: away", x.may(0, 0, 0), 0);
        Due.is("10: the text alone does not do: paper", x.may(0, 1, 1), 0);
        Due.is("10: the text alone does not do: rank", x.may(0, 2, 1), 0);
    }

    /** 11: what cost gives, held within 0 .. 9999. */
    private static void costsAreHeld() {
        String[] texts = {"0", "0-1", "1", "9998", "9999", "9999+1", "9999*9999", "8192*4*8192*8", "8192*4*8192*8-1",
            "8192*8*8192*8", "0-8192*8*8192*4-1"};
        int[] due = {0, 0, 1, 9998, 9999, 9999, 9999, 0, 9999, 0, 9999};
        for (int k = 0; k < texts.length; k++) {
            WhoSigns x = Due.office(1, 1);
            Due.text(x, "cost " + texts[k]);
            Due.is("11: cost gives " + texts[k], x.cost(0, 0), due[k]);
            Due.is("24: as it is held", x.way(0, -1), due[k]);
        }
    }

    /** 11: without a TEXT: MINUTES times RANK and 1 together. */
    private static void costsWithoutText() {
        WhoSigns x = new WhoSigns();
        x.person(0, 0, 0);
        x.person(0, 9, 0);
        x.step(-1, 0, 1);
        x.step(3, 9, 60);
        Due.is("11: 1 times 1", x.cost(0, 0), 1);
        Due.is("11: 1 times 10", x.cost(1, 0), 10);
        Due.is("11: of one who may not", x.cost(0, 1), 60);
        Due.is("11: 60 times 10", x.cost(1, 1), 600);
    }

    /** 11: BAD. */
    private static void costsRefused() {
        FEW.refuses("11: neither of them", BAD, o -> o.cost(3, 3));
        FULL_ONE.refuses("11: neither of them", BAD, o -> o.cost(7, 6));
        BARE_ONE.refuses("11: no people", BAD, o -> o.cost(-1, -1));
    }
}
