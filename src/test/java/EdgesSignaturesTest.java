/** Promises 33 to 40 at their edges: above each test stands what the document says there. */
public final class EdgesSignaturesTest {
    private static final int BAD = WhoSigns.BAD, NO = WhoSigns.NO, NONE = WhoSigns.NONE;
    private static final int MIN = Twin.MIN, MAX = Twin.MAX;
    private static final int APART = 1, SAME = 2, OVER = 4, MANY = 5;
    private static final Twin BARE = Twin.bare(), FEW = Twin.few(), FULL_ONE = Twin.full();

    public static void main(String[] args) {
        signsOpenSteps();
        signsNotOpen();
        signsWhoMayNot();
        signsAgainstRules();
        signsAgainstOtherRules();
        signRefused();
        overAll();
        judgesFirst();
        turnsUpByWait();
        turnsUpByNumbers();
        turnsUpUnlessAway();
        roundsEnd();
        takesTheFirstOpenStep();
        takesWithRulesKept();
        takesBesideSignatures();
        queueRefused();
        logOfThirty();
        logRefused();
        auditsByTodaysLaw();
        auditRefused();
        seeds();
        draws();
        trials();
        luckRefused();
        Due.end("EdgesSignaturesTest");
    }

    private static int[] outside(int least, int most) {
        return new int[] {least - 1, most + 1, MIN, MAX};
    }

    /** 33: A PERSON signs an open STEP: how many STEPS are SIGNED. */
    private static void signsOpenSteps() {
        WhoSigns x = Due.office(7, 6);
        for (int s = 5; s >= 0; s--) {
            Due.is("33: so many", x.sign(s, s + 1), 6 - s);
            Due.is("53: so many", x.count(3), 6 - s);
            Due.is("8: who signed", x.stepTold(s, 3), s + 1);
            Due.is("53: rows of the log", x.count(6), 6 - s);
        }
        WhoSigns y = Due.office(1, 6);
        for (int s = 0; s < 6; s++) {
            Due.is("33: all by one", y.sign(s, 0), s + 1);
        }
    }

    /** 33: NO: it is not open. */
    private static void signsNotOpen() {
        for (int p = 0; p < 3; p++) {
            int who = p;
            FEW.refuses("33: it is signed", NO, o -> o.sign(0, who));
        }
        WhoSigns x = Due.office(2, 1);
        x.sign(0, 0);
        x.over();
        Due.is("33: it is open again", x.sign(0, 1), 1);
    }

    /** 33: they MAY not today. */
    private static void signsWhoMayNot() {
        Twin x = new Twin("may not", () -> {
            WhoSigns o = Due.office(3, 1);
            o.step(0, 0, 1);
            o.step(-1, 2, 1);
            o.away(0, 0, 0);
            Due.text(o, "may 1-(k=0)*(d=0)*(r=2)");
            return o;
        });
        x.refuses("33: away", NO, o -> o.sign(0, 0));
        x.refuses("33: by the text", NO, o -> o.sign(0, 2));
        x.refuses("33: without the paper", NO, o -> o.sign(1, 1));
        x.refuses("33: of too low a rank", NO, o -> o.sign(2, 1));
        WhoSigns y = x.make();
        Due.is("33: one who may", y.sign(0, 1), 1);
        Due.is("33: just of the rank", y.sign(2, 2), 2);
        WhoSigns z = x.make();
        z.days(1);
        Due.is("33: tomorrow", z.sign(0, 0), 1);
        WhoSigns other = x.make();
        other.days(1);
        Due.is("33: tomorrow, by the text", other.sign(0, 2), 1);
    }

    /** 33: or not all RULES would be KEPT. */
    private static void signsAgainstRules() {
        Twin x = new Twin("ruled", () -> {
            WhoSigns o = Due.office(3, 4);
            o.rule(APART, 1, 0);
            o.rule(OVER, 2, 2);
            o.rule(SAME, 31, 0);
            o.rule(MANY, 3, 3);
            o.sign(0, 0);
            return o;
        });
        x.refuses("33: apart", NO, o -> o.sign(1, 0));
        x.refuses("33: over, one less", NO, o -> o.sign(2, 1));
        x.refuses("33: over, the same", NO, o -> o.sign(2, 0));
        WhoSigns y = x.make();
        Due.is("33: over, just", y.sign(2, 2), 2);
        Due.is("33: kept while one is open", y.sign(3, 2), 3);
        Due.is("33: same", y.sign(1, 1), NO);
        Due.is("33: many, with the last one", y.sign(1, 2), NO);
        Due.is("53: three", y.count(3), 3);
    }

    /** 33: all RULES, those too that others broke. */
    private static void signsAgainstOtherRules() {
        Twin x = new Twin("broken", () -> {
            WhoSigns o = Due.office(3, 3);
            o.sign(0, 0);
            o.sign(1, 0);
            o.rule(APART, 1, 0);
            return o;
        });
        for (int p = 0; p < 3; p++) {
            int who = p;
            x.refuses("33: one is broken", NO, o -> o.sign(2, who));
        }
        WhoSigns y = x.make();
        y.turns(0, SAME);
        Due.is("33: none is", y.sign(2, 0), 3);
    }

    /** 33: BAD; NO. */
    private static void signRefused() {
        for (int v : outside(0, 2)) {
            FEW.refuses("33: step " + v, BAD, o -> o.sign(v, 0));
            FEW.refuses("33: person " + v, BAD, o -> o.sign(1, v));
            FEW.refuses("33: BAD stands ahead of NO, " + v, BAD, o -> o.sign(0, v));
        }
        for (int v : outside(0, 5)) {
            FULL_ONE.refuses("33: step " + v, BAD, o -> o.sign(v, 0));
        }
        for (int v : outside(0, 6)) {
            FULL_ONE.refuses("33: person " + v, BAD, o -> o.sign(0, v));
        }
        BARE.refuses("33: nobody, nothing", BAD, o -> o.sign(-1, -1));
    }

    /** 34: All STEPS are open again: how many were SIGNED. */
    private static void overAll() {
        BARE.refuses("34: none", 0, WhoSigns::over);
        for (int many = 0; many <= 6; many++) {
            WhoSigns x = Due.office(1, 6);
            for (int s = 0; s < many; s++) {
                x.sign(5 - s, 0);
            }
            Due.is("34: " + many, x.over(), many);
            Due.is("34: none any more", x.over(), 0);
            Due.is("53: none", x.count(3), 0);
            Due.is("53: the log stays", x.count(6), many);
            for (int s = 0; s < 6; s++) {
                Due.is("8: open", x.stepTold(s, 3), NONE);
            }
        }
    }

    /** 35: The first RULE that is not KEPT by those who SIGNED. NONE. */
    private static void judgesFirst() {
        BARE.refuses("35: no rules", NONE, WhoSigns::judge);
        WhoSigns x = Due.office(2, 3);
        x.sign(0, 0);
        x.sign(1, 1);
        for (int r = 0; r < 11; r++) {
            x.rule(r % 2 == 0 ? APART : 0, r % 3 == 0 ? 1 : 10, 0);
        }
        Due.is("35: all are kept", x.judge(), NONE);
        x.rule(SAME, 10, 0);
        Due.is("35: the last of twelve", x.judge(), 11);
        x.turns(5, SAME);
        Due.is("35: the first of two", x.judge(), 5);
        x.turns(0, MANY);
        Due.is("35: many 0 is kept", x.judge(), 5);
        x.turns(0, SAME);
        Due.is("35: the first of all", x.judge(), 0);
        x.over();
        Due.is("35: nobody signed", x.judge(), NONE);
        x.away(0, 0, 999);
        x.sign(1, 1);
        Due.is("35: one alone signed", x.judge(), NONE);
    }

    /** 36: by WAIT (the least first), which is any int. */
    private static void turnsUpByWait() {
        String[] texts = {"r", "0-r", "(r=1)*8192*4*8192*8+r", "(r=1)*(8192*4*8192*8-1)+(r=2)*8192*4*8192*8", "5"};
        int[][] due = {{0, 1, 2}, {2, 1, 0}, {1, 0, 2}, {2, 0, 1}, {0, 1, 2}};
        for (int k = 0; k < texts.length; k++) {
            WhoSigns x = Due.office(3, 3);
            Due.text(x, "wait " + texts[k]);
            for (int s = 0; s < 3; s++) {
                Due.is("36: wait " + texts[k] + ", step " + s, x.queue(s), due[k][s]);
            }
        }
        WhoSigns x = new WhoSigns();
        x.person(0, 9, 0);
        x.person(0, 0, 0);
        x.step(-1, 0, 1);
        Due.is("36: without a text by rank", x.queue(0), 1);
    }

    /** 36: of like ones by numbers. */
    private static void turnsUpByNumbers() {
        WhoSigns x = new WhoSigns();
        for (int p = 0; p < 7; p++) {
            x.person(0, p < 3 ? 5 : 4, 0);
        }
        for (int s = 0; s < 6; s++) {
            x.step(-1, 0, 1);
        }
        int[] due = {3, 4, 5, 6, 0, 1};
        for (int s = 0; s < 6; s++) {
            Due.is("36: step " + s, x.queue(s), due[s]);
        }
    }

    /** 36: all PEOPLE that are not AWAY. */
    private static void turnsUpUnlessAway() {
        WhoSigns x = Due.office(3, 3);
        x.away(0, 0, 0);
        int[] due = {1, 2, 1};
        for (int s = 0; s < 3; s++) {
            Due.is("36: step " + s, x.queue(s), due[s]);
        }
        x.away(1, 0, 0);
        x.away(2, 0, 0);
        Due.is("36: nobody turns up", x.queue(-1), 0);
        Due.is("36: nobody", x.queue(0), NONE);
        x.days(1);
        Due.is("36: all turn up", x.queue(-1), 3);
    }

    /** 36: the rounds end with one in which nobody takes any. */
    private static void roundsEnd() {
        Due.is("36: six rounds of one", Due.office(1, 6).queue(-1), 6);
        Due.is("36: all by one", Due.office(1, 6).queue(5), 0);
        Due.is("36: one round of seven", Due.office(7, 6).queue(5), 5);
        WhoSigns x = Due.office(2, 2);
        Due.text(x, "may k=0|r=1");
        x.rule(OVER, 1, 1);
        Due.is("36: the first takes step 0", x.queue(0), 0);
        Due.is("36: the other takes step 1", x.queue(1), 1);
        // the last round is one in which both look for a step and find none
        WhoSigns y = Due.office(2, 3);
        y.rule(APART, 1, 0);
        y.rule(APART, 2, 0);
        y.rule(APART, 12, 0);
        Due.is("36: none can take the third", y.queue(-1), 2);
        Due.is("36: none can take the third", y.queue(2), NONE);
        Due.text(y, "may k");
        Due.is("36: none may take the first", y.queue(0), NONE);
        Due.is("36: the others are taken", y.queue(-1), 2);
    }

    /** 36: each takes the first open STEP (that nobody took) that they MAY do today. */
    private static void takesTheFirstOpenStep() {
        WhoSigns x = Due.office(2, 0);
        x.step(3, 0, 1);
        x.step(-1, 1, 1);
        x.step(-1, 0, 1);
        x.step(-1, 0, 1);
        int[] due = {NONE, 1, 0, 0};
        for (int s = 0; s < 4; s++) {
            Due.is("36: step " + s, x.queue(s), due[s]);
        }
        Due.is("36: three", x.queue(-1), 3);
        x.sign(2, 1);
        int[] later = {NONE, 1, 1, 0};
        for (int s = 0; s < 4; s++) {
            Due.is("36: behind a signature, step " + s, x.queue(s), later[s]);
        }
    }

    /** 36: and with which all RULES are KEPT (by those SIGNED and taken). */
    private static void takesWithRulesKept() {
        WhoSigns x = Due.office(3, 3);
        x.rule(MANY, 2, 2);
        x.rule(SAME, 1, 0);
        int[] due = {0, 0, 1};
        for (int s = 0; s < 3; s++) {
            Due.is("36: step " + s, x.queue(s), due[s]);
        }
        x.away(1, 0, 0);
        Due.is("36: the last by another one", x.queue(2), 2);
        x.away(2, 0, 0);
        Due.is("36: the last by nobody", x.queue(2), NONE);
        Due.is("36: two", x.queue(-1), 2);
    }

    /** 36: (Nothing is SIGNED by this.) how many STEPS somebody does then (SIGNED ones, too). */
    private static void takesBesideSignatures() {
        WhoSigns x = Due.office(2, 2);
        x.sign(0, 1);
        Due.is("36: two", x.queue(-1), 2);
        Due.is("36: who signed", x.queue(0), 1);
        Due.is("36: who took", x.queue(1), 0);
        Due.is("53: one is signed", x.count(3), 1);
        Due.is("53: one row", x.count(6), 1);
        x.rule(SAME, 1, 0);
        Due.is("36: the same takes it", x.queue(1), 1);
        x.away(1, 0, 0);
        Due.is("36: the same is away", x.queue(1), NONE);
        Due.is("36: one", x.queue(-1), 1);
        Due.is("36: who signed, though away", x.queue(0), 1);
        FULL_ONE.refuses("36: nothing is changed by it", 6, o -> o.queue(-1));
        WhoSigns y = Due.office(2, 3);
        y.sign(0, 0);
        y.sign(1, 0);
        y.rule(APART, 1, 0);
        Due.is("36: with a broken rule nobody takes any", y.queue(-1), 2);
        Due.is("36: with a broken rule nobody takes any", y.queue(2), NONE);
    }

    /** 36: what -1, 0 .. 5. BAD: what (of STEPS that there are alone). */
    private static void queueRefused() {
        for (int v : outside(-1, 2)) {
            FEW.refuses("36: what " + v, BAD, o -> o.queue(v));
        }
        for (int v : outside(-1, 5)) {
            FULL_ONE.refuses("36: what " + v, BAD, o -> o.queue(v));
        }
        for (int v : outside(-1, -1)) {
            BARE.refuses("36: what " + v, BAD, o -> o.queue(v));
        }
    }

    /** 37: THE LOG (30 at most; behind these the first goes): DAY, STEP, PERSON. */
    private static void logOfThirty() {
        for (int many : new int[] {1, 29, 30, 31, 32, 60, 61, 90}) {
            WhoSigns x = Due.office(7, 6);
            for (int k = 0; k < many; k++) {
                x.sign(k % 6, k % 7);
                x.over();
                x.days(1);
            }
            int kept = Math.min(30, many);
            Due.is("53: rows of " + many, x.count(6), kept);
            for (int i : new int[] {0, 1, kept / 2, kept - 1}) {
                int k = many - kept + i;
                int[] due = {k, k % 6, k % 7};
                for (int what = 0; what < 3; what++) {
                    Due.is("37: row " + i + " of " + many + ", what " + what, x.log(i, what), i < kept ? due[what] : NONE);
                }
            }
            Due.is("37: there are not so many", x.log(kept, 0), NONE);
            Due.is("37: a refused one is not kept", x.sign(6, 0), BAD);
            Due.is("53: rows of " + many, x.count(6), kept);
        }
    }

    /** 37: BAD: what, i below 0; NONE: there are not so many. */
    private static void logRefused() {
        for (int v : outside(0, 2)) {
            FEW.refuses("37: what " + v, BAD, o -> o.log(0, v));
            FEW.refuses("37: BAD stands ahead of NONE, " + v, BAD, o -> o.log(2, v));
        }
        for (int v : new int[] {-1, -2, MIN}) {
            FEW.refuses("37: i " + v, BAD, o -> o.log(v, 0));
            BARE.refuses("37: i " + v, BAD, o -> o.log(v, 0));
        }
        for (int v : new int[] {2, 29, 30, MAX}) {
            FEW.refuses("37: i " + v, NONE, o -> o.log(v, 0));
        }
        for (int v : new int[] {30, 31, MAX}) {
            FULL_ONE.refuses("37: i " + v, NONE, o -> o.log(v, 2));
        }
        for (int what = 0; what < 3; what++) {
            int w = what;
            BARE.refuses("37: no rows", NONE, o -> o.log(0, w));
        }
    }

    /** 38: those rows of THE LOG whose PERSON MAY not do that STEP today. */
    private static void auditsByTodaysLaw() {
        WhoSigns x = Due.office(3, 2);
        for (int k = 0; k < 30; k++) {
            x.sign(k % 2, k % 3);
            x.over();
        }
        Due.is("38: all may", x.audit(-1), 0);
        Due.is("38: none", x.audit(0), NONE);
        Due.text(x, "may 0");
        Due.is("38: none may", x.audit(-1), 30);
        for (int i = 0; i < 30; i++) {
            Due.is("38: each row", x.audit(i), i);
        }
        Due.is("38: no more", x.audit(30), NONE);
        Due.text(x, "may r-2");
        Due.is("38: ten", x.audit(-1), 10);
        Due.is("38: the first", x.audit(0), 2);
        Due.is("38: the last", x.audit(9), 29);
        Due.is("38: no more", x.audit(10), NONE);
        Due.text(x, "may k|d");
        Due.is("38: of step 0", x.audit(-1), 15);
        Due.is("38: the last of step 0", x.audit(14), 28);
        x.days(1);
        Due.is("38: today", x.audit(-1), 0);
        x.away(1, 0, 1);
        Due.is("38: one is away", x.audit(-1), 10);
        x.sign(0, 0);
        Due.is("38: a row goes", x.audit(0), 0);
        Due.is("38: it was the first", x.audit(1), 3);
    }

    /** 38: BAD: i below -1; NONE. */
    private static void auditRefused() {
        for (int v : new int[] {-2, -3, MIN}) {
            FEW.refuses("38: i " + v, BAD, o -> o.audit(v));
            BARE.refuses("38: i " + v, BAD, o -> o.audit(v));
        }
        for (int v : new int[] {1, 2, MAX}) {
            FEW.refuses("38: i " + v, NONE, o -> o.audit(v));
        }
        for (int v : new int[] {0, 29, 30, MAX}) {
            FULL_ONE.refuses("38: i " + v, NONE, o -> o.audit(v));
            BARE.refuses("38: i " + v, NONE, o -> o.audit(v));
        }
        FULL_ONE.refuses("38: how many", 0, o -> o.audit(-1));
    }

    /** 39: z becomes v: what it was. */
    private static void seeds() {
        WhoSigns x = new WhoSigns();
        int before = 1;
        for (int v : new int[] {0, -1, MIN, MAX, WhoSigns.BAD, 1}) {
            Due.is("39: what it was", x.seed(v), before);
            Due.is("53: what it is", x.count(11), v);
            before = v;
        }
    }

    /** 40: z becomes z * 1103515245 + 12345 (an int); it gives z >>> 8. MISSING if its rest by 4 is 0. */
    private static void draws() {
        for (int seed : new int[] {1, 0, -1, MIN, MAX, 5, 12345, -77}) {
            for (int people = 1; people <= 7; people++) {
                WhoSigns x = Due.office(people, 1);
                x.seed(seed);
                int z = seed;
                int here = 0;
                for (int p = 0; p < people; p++) {
                    z = (int) ((long) z * 1103515245L + 12345L);
                    long drawn = (z & 0xffffffffL) >> 8;
                    here += drawn % 4 == 0 ? 0 : 1;
                }
                Due.is("40: z " + seed + " of " + people, x.luck(1), here > 0 ? 1 : 0);
                Due.is("40: z goes on", x.count(11), z);
            }
        }
    }

    /** 40: Of m trials how many are lucky (z goes on). */
    private static void trials() {
        WhoSigns one = Due.office(3, 2);
        one.rule(APART, 1, 0);
        WhoSigns other = Due.office(3, 2);
        other.rule(APART, 1, 0);
        int sum = 0;
        for (int k = 0; k < 60; k++) {
            sum += one.luck(1);
        }
        Due.is("40: sixty at once", other.luck(60), sum);
        Due.is("40: z", other.count(11), one.count(11));
        WhoSigns x = Due.office(2, 1);
        x.sign(0, 0);
        Due.is("40: who signed need not be there", x.luck(60), 60);
        int z = 1;
        for (int k = 0; k < 120; k++) {
            z = z * 1103515245 + 12345;
        }
        Due.is("40: a draw for each, though all is signed", x.count(11), z);
        WhoSigns y = Due.office(2, 1);
        y.away(0, 0, 0);
        y.away(1, 0, 0);
        Due.is("40: no way", y.luck(60), 0);
        Due.is("40: a draw for each, though all are away", y.count(11), z);
    }

    /** 40: m (1 .. 60). BAD. */
    private static void luckRefused() {
        for (int v : outside(1, 60)) {
            FEW.refuses("40: m " + v, BAD, o -> o.luck(v));
            FULL_ONE.refuses("40: m " + v, BAD, o -> o.luck(v));
            BARE.refuses("40: m " + v, BAD, o -> o.luck(v));
        }
    }
}
