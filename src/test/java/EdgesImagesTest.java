/** Promises 49 to 53 at their edges: above each test stands what the document says there. */
public final class EdgesImagesTest {
    private static final int BAD = WhoSigns.BAD, NO = WhoSigns.NO, FULL = WhoSigns.FULL, NONE = WhoSigns.NONE;
    private static final int NOTHING = WhoSigns.NOTHING, MIN = Twin.MIN, MAX = Twin.MAX;
    private static final int APART = 1;
    private static final Twin BARE = Twin.bare(), FEW = Twin.few(), FULL_ONE = Twin.full();

    public static void main(String[] args) {
        sixtyWait();
        tellsAnyInt();
        checksDays();
        checksTheFirstThatIsNot();
        checksMissingOnes();
        checksOneTooMany();
        checksByTheImage();
        noneWaitThen();
        checkRefused();
        checkWithoutImage();
        checkBehindTheLastDay();
        checkChangesNothingElse();
        keepsTheDay();
        imageStands();
        imageKeepsWhatIsThere();
        imageKeepsNot();
        backToNothing();
        backToFullness();
        backAgainAndAgain();
        backRefused();
        countsAtFirst();
        countsAtMost();
        countRefused();
        Due.end("EdgesImagesTest");
    }

    private static int[] outside(int least, int most) {
        return new int[] {least - 1, most + 1, MIN, MAX};
    }

    /** 49: One more number waits: how many. FULL: 60 wait. */
    private static void sixtyWait() {
        WhoSigns x = new WhoSigns();
        for (int k = 1; k <= 60; k++) {
            Due.is("49: so many", x.tell(k), k);
            Due.is("53: so many", x.count(8), k);
        }
        Due.is("49: the 61st", x.tell(0), FULL);
        for (int v : new int[] {0, 60, MIN, MAX}) {
            FULL_ONE.refuses("49: the 61st", FULL, o -> o.tell(v));
        }
        WhoSigns y = FULL_ONE.make();
        Due.is("50: sixty, the first is wrong", y.check(1), 1);
        Due.is("49: from one again", y.tell(5), 1);
    }

    /** 49: any number. */
    private static void tellsAnyInt() {
        WhoSigns x = new WhoSigns();
        x.keep();
        for (int v : new int[] {MIN, MAX, -1, 0, BAD}) {
            Due.is("49: one", x.tell(v), 1);
            Due.is("50: it is wrong", x.check(1), 1);
        }
        x.tell(1);
        Due.is("50: it is right", x.check(1), 0);
    }

    /** Two people and two steps apart, one of them away on days 6 and 7: ways 2, but 0 on these; day 5 is the image's. */
    private static WhoSigns kept() {
        WhoSigns x = Due.office(2, 2);
        x.rule(APART, 1, 0);
        x.away(1, 6, 7);
        x.days(5);
        x.keep();
        return x;
    }

    private static void checked(String what, WhoSigns x, int n, int due, int... told) {
        for (int v : told) {
            x.tell(v);
        }
        Due.is("50: " + what, x.check(n), due);
        Due.is("50: none wait, " + what, x.count(8), 0);
    }

    /** 50: The numbers that wait are THE DAYS TOLD of n (1 .. 20): 0. */
    private static void checksDays() {
        WhoSigns x = kept();
        checked("one", x, 1, 0, 2);
        checked("two", x, 2, 0, 2, 0);
        checked("four", x, 4, 0, 2, 0, 0, 2);
        int[] twenty = new int[20];
        for (int k = 0; k < 20; k++) {
            twenty[k] = k == 1 || k == 2 ? 0 : 2;
        }
        checked("twenty", x, 20, 0, twenty);
        WhoSigns y = Due.office(7, 6);
        y.keep();
        checked("as many as there can be", y, 1, 0, 117649);
        WhoSigns z = new WhoSigns();
        z.keep();
        checked("without steps", z, 3, 0, 1, 1, 1);
    }

    /** 50: else 1 and how many stand right ahead of the first that is not. */
    private static void checksTheFirstThatIsNot() {
        WhoSigns x = kept();
        for (int wrong = 0; wrong < 4; wrong++) {
            int[] told = {2, 0, 0, 2};
            told[wrong]++;
            checked("the first wrong is " + wrong, x, 4, 1 + wrong, told);
        }
        checked("two are wrong", x, 4, 2, 2, 9, 9, 2);
        checked("wrong ahead of one too many", x, 2, 2, 2, 9, 0);
        checked("wrong ahead of a missing one", x, 3, 1, 9, 0);
        int[] twenty = new int[20];
        for (int k = 0; k < 20; k++) {
            twenty[k] = k == 1 || k == 2 || k == 19 ? 0 : 2;
        }
        checked("the last of twenty", x, 20, 20, twenty);
    }

    /** 50: (or is missing). */
    private static void checksMissingOnes() {
        WhoSigns x = kept();
        checked("none waits", x, 1, 1);
        checked("none waits", x, 20, 1);
        checked("the second is missing", x, 2, 2, 2);
        checked("the last is missing", x, 4, 4, 2, 0, 0);
        int[] nineteen = new int[19];
        for (int k = 0; k < 19; k++) {
            nineteen[k] = k == 1 || k == 2 ? 0 : 2;
        }
        checked("the twentieth is missing", x, 20, 20, nineteen);
    }

    /** 50: (or one too many). */
    private static void checksOneTooMany() {
        WhoSigns x = kept();
        checked("one too many", x, 1, 2, 2, 0);
        checked("one too many", x, 4, 5, 2, 0, 0, 2, 2);
        int[] many = new int[60];
        for (int k = 0; k < 60; k++) {
            many[k] = k == 1 || k == 2 ? 0 : 2;
        }
        checked("forty too many", x, 20, 21, many);
    }

    /** 50: (by all that THE IMAGE keeps) on each of n DAYS from THE IMAGE's on (that too). */
    private static void checksByTheImage() {
        WhoSigns x = kept();
        x.days(50);
        x.drop(0);
        x.away(0, 0, 999);
        x.away(1, 0, 999);
        x.sign(0, 0);
        Due.text(x, "may 0");
        x.person(0, 0, 0);
        x.step(-1, 0, 1);
        checked("as it was", x, 4, 0, 2, 0, 0, 2);
        Due.is("50: today is another day", x.count(10), 55);
        x.back();
        Due.text(x, "may d-8");
        x.sign(0, 0);
        x.keep();
        checked("signed, and by a text", x, 5, 0, 1, 0, 0, 0, 1);
        checksAllOfPeople();
    }

    /** What a kept person is like counts: office, rank, kin, papers, standing. */
    private static void checksAllOfPeople() {
        WhoSigns x = new WhoSigns();
        x.person(3, 5, 7);
        x.person(4, 4, 7);
        x.person(4, 9, 1);
        x.step(6, 5, 1);
        x.step(-1, 0, 1);
        x.paper(1, 6, true);
        x.paper(2, 6, true);
        x.stand(0, 2, 3);
        x.away(2, 2, 4);
        x.rule(3, 1, 0);
        Due.text(x, "may k=0|o=4");
        x.keep();
        for (int p = 0; p < 3; p++) {
            x.paper(p, 6, false);
            x.stand(p, -1, 0);
            x.away(p, 0, 999);
        }
        checked("step 0 by 2, by 0 for 2, by none, by 2", x, 6, 0, 1, 1, 0, 0, 0, 1);
        x.back();
        x.turns(0, 0);
        x.keep();
        checked("kin does not count", x, 6, 0, 2, 2, 1, 1, 0, 2);
    }

    /** 50: (none do then, whatever is answered). */
    private static void noneWaitThen() {
        WhoSigns x = kept();
        for (int n : new int[] {0, 21, -1, MIN, MAX}) {
            checked("BAD", x, n, BAD, 2);
        }
        checked("right", x, 1, 0, 2);
        checked("wrong", x, 1, 1, 3);
        WhoSigns y = new WhoSigns();
        checked("NO", y, 1, NO, 2);
        int[] sixty = new int[60];
        checked("sixty", y, 1, NO, sixty);
        checked("sixty", y, 0, BAD, sixty);
        Due.is("49: from one again", y.tell(9), 1);
    }

    /** 50: n (1 .. 20). BAD. */
    private static void checkRefused() {
        for (int v : outside(1, 20)) {
            BARE.refuses("50: n " + v, BAD, o -> o.check(v));
            FEW.refusesBut("50: n " + v, BAD, o -> o.check(v), o -> o.check(3));
            FULL_ONE.refusesBut("50: n " + v, BAD, o -> o.check(v), o -> o.check(3));
        }
    }

    /** 50: NO: there is no IMAGE. */
    private static void checkWithoutImage() {
        for (int n : new int[] {1, 20}) {
            BARE.refuses("50: no image", NO, o -> o.check(n));
        }
        for (int v : outside(1, 20)) {
            BARE.refuses("50: BAD stands ahead of NO", BAD, o -> o.check(v));
        }
    }

    /** 50: or a DAY would be above 999. */
    private static void checkBehindTheLastDay() {
        for (int day = 978; day <= 999; day++) {
            WhoSigns x = new WhoSigns();
            for (int k = 0; k < 9; k++) {
                x.days(99);
            }
            x.days(day - 891 > 99 ? 99 : day - 891);
            if (day > 990) {
                x.days(day - 990);
            }
            Due.is("50: the image's day", x.keep(), day);
            for (int n : new int[] {1, 2, 19, 20}) {
                int[] ones = new int[n];
                java.util.Arrays.fill(ones, 1);
                checked("day " + day + " and " + n, x, n, day + n - 1 > 999 ? NO : 0, ones);
            }
            checked("BAD stands ahead of NO", x, 21, BAD, 1);
        }
        WhoSigns y = new WhoSigns();
        y.keep();
        for (int k = 0; k < 10; k++) {
            y.days(99);
        }
        y.days(9);
        checked("the image's day counts, not today", y, 2, 0, 1, 1);
    }

    /** 50: it tells, and changes nothing but the numbers that wait. */
    private static void checkChangesNothingElse() {
        FEW.refusesBut("50: right", 0, o -> o.check(3), o -> o.check(0));
        FEW.refusesBut("50: wrong", 3, o -> o.check(2), o -> o.check(0));
        FULL_ONE.refusesBut("50: a day behind the last", NO, o -> o.check(11), o -> o.check(0));
    }

    /** 51: AN IMAGE is kept: the DAY. */
    private static void keepsTheDay() {
        WhoSigns x = new WhoSigns();
        Due.is("51: day 0", x.keep(), 0);
        x.days(99);
        Due.is("51: day 99", x.keep(), 99);
        Due.is("51: once more", x.keep(), 99);
        WhoSigns y = FULL_ONE.make();
        Due.is("51: day 999", y.keep(), 999);
        y.seed(4);
        Due.is("52: day 999", y.back(), 999);
        Due.is("52: z", y.count(11), MAX);
    }

    /** 51: what is done later does not change THE IMAGE, what is kept later takes its place. */
    private static void imageStands() {
        WhoSigns x = kept();
        x.drop(0);
        x.keep();
        x.rule(APART, 10, 0);
        x.back();
        Due.is("52: the later one", x.count(2), 0);
        checked("the later one", x, 2, 0, 4, 1);
    }

    /** 51: AN IMAGE keeps all. */
    private static void imageKeepsWhatIsThere() {
        Twin few = new Twin("few, kept", () -> {
            WhoSigns x = FEW.make();
            x.keep();
            return x;
        });
        few.refuses("52: at once", 5, WhoSigns::back);
        few.refuses("52: twice", 5, o -> Math.min(o.back(), o.back()));
        few.refuses("52: behind other acts", 5, o -> {
            o.person(0, 0, 0);
            o.paper(1, 7, true);
            o.away(1, 0, 9);
            o.stand(2, 1, 7);
            o.step(0, 0, 1);
            o.rule(2, 3, 1);
            o.turns(0, 5);
            o.drop(1);
            o.offer(3, 3);
            o.clear();
            o.offer(2, 1);
            o.offer(2, 2);
            o.sign(1, 2);
            o.over();
            o.days(7);
            o.seed(3);
            o.luck(5);
            return o.back();
        });
        few.refuses("52: behind no more of it", 5, o -> {
            o.clear();
            o.over();
            o.drop(2);
            o.drop(0);
            o.paper(0, 0, false);
            o.stand(1, -1, 0);
            o.away(0, 1, 0);
            return o.back();
        });
        few.refuses("52: behind a fuller log", 5, o -> {
            for (int k = 0; k < 40; k++) {
                o.over();
                o.sign(1, 2);
            }
            return o.back();
        });
    }

    /** 51: all but SHEETS, SLOTS, numbers that wait, THE TAPE. */
    private static void imageKeepsNot() {
        WhoSigns x = FEW.make();
        x.sheet(0, 1, 2);
        x.mark(0, 1, 77);
        x.lay(0, 3, 8);
        x.tell(5);
        x.trim(4);
        x.back();
        Due.is("52: the sheet stays", x.mark(0, 1, 0), 77);
        Due.is("52: the slot stays", x.rest(0, 5), 3);
        Due.is("52: the numbers stay", x.count(8), 4);
        Due.is("52: the tape stays", x.count(9), 4);
        x.keep();
        x.sheet(0, -1, 0);
        x.lay(0, 0, 0);
        x.trim(0);
        x.check(1);
        x.back();
        Due.is("52: the sheet is missing", x.mark(0, 1, 0), NOTHING);
        Due.is("52: the slot holds nothing", x.rest(0, 5), NOTHING);
        Due.is("52: no numbers wait", x.count(8), 0);
        Due.is("52: the tape is empty", x.count(9), 0);
        Due.feed(x, "may 0");
        x.back();
        Due.is("20: a tape from before", x.text(), 1);
        Due.is("22: it counts", x.why(0), 1);
        x.back();
        Due.is("22: no more", x.why(0), NONE);
    }

    /** 52: All is as THE IMAGE: an image of nothing. */
    private static void backToNothing() {
        Twin empty = new Twin("empty, kept", () -> {
            WhoSigns x = new WhoSigns();
            x.keep();
            return x;
        });
        empty.refuses("52: nothing", 0, o -> {
            o.person(4, 9, 9);
            o.person(0, 0, 0);
            o.paper(0, 7, true);
            o.away(0, 0, 999);
            o.stand(0, 1, 999);
            o.step(7, 0, 60);
            o.step(-1, 0, 60);
            o.rule(5, 10, 9);
            o.sign(1, 1);
            o.offer(0, 7);
            o.days(99);
            o.seed(9);
            Due.text(o, "may 0");
            Due.text(o, "cost 0");
            Due.text(o, "wait 0");
            return o.back();
        });
        WhoSigns x = empty.make();
        x.person(4, 9, 9);
        x.person(4, 9, 9);
        x.paper(0, 7, true);
        x.away(0, 0, 999);
        x.stand(0, 1, 999);
        x.step(7, 9, 60);
        x.sign(0, 1);
        x.back();
        Due.is("2: from 0 again", x.person(1, 2, 3), 0);
        int[] person = {1, 2, 3, 0, 0, NONE, NONE, 20};
        for (int what = 0; what < 8; what++) {
            Due.is("3: as new, what " + what, x.personTold(0, what), person[what]);
        }
        Due.is("7: from 0 again", x.step(-1, 0, 1), 0);
        int[] step = {NONE, 0, 1, NONE, 1};
        for (int what = 0; what < 5; what++) {
            Due.is("8: as new, what " + what, x.stepTold(0, what), step[what]);
        }
    }

    /** 52: All is as THE IMAGE: an image of all that there can be. */
    private static void backToFullness() {
        WhoSigns x = FULL_ONE.make();
        x.keep();
        for (int r = 0; r < 12; r++) {
            x.drop(0);
        }
        x.clear();
        Due.is("53: no rules", x.count(2), 0);
        Due.is("52: day 999", x.back(), 999);
        int[] due = {7, 6, 12, 0, 14, 6, 30, 0, 60, 96, 999, MAX};
        for (int what = 0; what < due.length; what++) {
            Due.is("53: what " + what, x.count(what), due[what]);
        }
        Due.is("2: full", x.person(0, 0, 0), FULL);
        Due.is("7: full", x.step(0, 0, 1), FULL);
        Due.is("12: full", x.rule(0, 1, 0), FULL);
        Due.is("29: full", x.offer(0, 0), FULL);
        Due.is("20: full", x.text(), FULL);
        Due.is("9: full", x.days(1), FULL);
        Due.is("49: full", x.tell(1), FULL);
        Due.is("37: the last row", x.log(29, 1), 5);
    }

    /** 52: (again and again). */
    private static void backAgainAndAgain() {
        WhoSigns x = kept();
        for (int k = 0; k < 20; k++) {
            x.days(k + 1);
            x.sign(0, 1);
            x.turns(0, k % 6);
            x.person(0, 0, 0);
            Due.text(x, "may 0");
            Due.is("52: the day", x.back(), 5);
            Due.is("53: people", x.count(0), 2);
            Due.is("53: texts", x.count(4), 0);
            Due.is("53: rows", x.count(6), 0);
            Due.is("13: its kind", x.told(0, 0), APART);
            Due.is("23: ways", x.ways(5), 2);
        }
    }

    /** 52: NO: there is none. */
    private static void backRefused() {
        BARE.refuses("52: no image", NO, WhoSigns::back);
        Twin none = new Twin("no image", () -> {
            WhoSigns x = Due.office(3, 3);
            x.sign(0, 0);
            x.days(4);
            x.tell(1);
            Due.feed(x, "may 1");
            return x;
        });
        none.refuses("52: no image", NO, WhoSigns::back);
    }

    /** 53: How many, of a new object. */
    private static void countsAtFirst() {
        WhoSigns x = BARE.make();
        for (int what = 0; what <= 11; what++) {
            Due.is("53: what " + what, x.count(what), what == 11 ? 1 : 0);
        }
        WhoSigns y = Due.office(7, 0);
        for (int p = 0; p < 7; p++) {
            y.away(p, 0, p);
            Due.is("53: away", y.count(7), p + 1);
        }
        for (int day = 1; day <= 7; day++) {
            y.days(1);
            Due.is("53: away today", y.count(7), 7 - day);
        }
    }

    /** 53: How many, of as much as there can be. */
    private static void countsAtMost() {
        WhoSigns x = FULL_ONE.make();
        int[] due = {7, 6, 12, 0, 14, 6, 30, 0, 60, 96, 999, MAX};
        for (int what = 0; what < due.length; what++) {
            Due.is("53: what " + what, x.count(what), due[what]);
        }
        for (int p = 0; p < 7; p++) {
            x.away(p, 999, 999);
        }
        Due.is("53: all are away", x.count(7), 7);
        WhoSigns y = Due.office(1, 6);
        for (int s = 0; s < 6; s++) {
            y.sign(s, 0);
        }
        Due.is("53: all are signed", y.count(3), 6);
    }

    /** 53: BAD. */
    private static void countRefused() {
        for (int v : outside(0, 11)) {
            FEW.refuses("53: what " + v, BAD, o -> o.count(v));
            BARE.refuses("53: what " + v, BAD, o -> o.count(v));
            FULL_ONE.refuses("53: what " + v, BAD, o -> o.count(v));
        }
    }
}
