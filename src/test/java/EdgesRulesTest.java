/** Promises 12 to 17 at their edges: above each test stands what the document says there. */
public final class EdgesRulesTest {
    private static final int BAD = WhoSigns.BAD, FULL = WhoSigns.FULL, NONE = WhoSigns.NONE, KIND = WhoSigns.KIND;
    private static final int MIN = Twin.MIN, MAX = Twin.MAX;
    private static final int RULE = 0, APART = 1, SAME = 2, KIN = 3, OVER = 4, MANY = 5;
    private static final Twin FEW = Twin.few(), FULL_ONE = Twin.full();

    public static void main(String[] args) {
        twelveRules();
        twelveOfOneKind();
        roomAfterDrop();
        kindsOfRules();
        unlikeSteps();
        stepsThatThereAre();
        numbersOfRules();
        toldOfRules();
        rulesThatAreNot();
        weights();
        ruleIsKept();
        apartIsKept();
        kinIsKept();
        overIsKept();
        sameIsKept();
        manyOfTwo();
        manyFromLesserToGreater();
        keptWhileNobodyDoes();
        manyKeptWhileNobodyDoes();
        asKinds();
        asRefused();
        turnsIntoKinds();
        turnsRefused();
        dropsShift();
        dropsRefused();
        keepsBesideSignatures();
        keepsRefused();
        Due.end("EdgesRulesTest");
    }

    private static int[] outside(int least, int most) {
        return new int[] {least - 1, most + 1, MIN, MAX};
    }

    /** 12: RULES, 12 at most, numbered from 0. FULL. */
    private static void twelveRules() {
        WhoSigns x = Due.office(0, 2);
        for (int r = 0; r < 12; r++) {
            Due.is("12: numbered from 0", x.rule(RULE, 1, 0), r);
            Due.is("12: so many", x.count(2), r + 1);
        }
        FULL_ONE.refuses("12: the thirteenth", FULL, o -> o.rule(RULE, 1, 0));
        FULL_ONE.refuses("12: BAD stands ahead of FULL, kind", BAD, o -> o.rule(6, 1, 0));
        FULL_ONE.refuses("12: BAD stands ahead of FULL, steps", BAD, o -> o.rule(0, 11, 0));
        FULL_ONE.refuses("12: BAD stands ahead of FULL, n", BAD, o -> o.rule(0, 1, 10));
    }

    /** 12: RULES, 12 at most, of one KIND all. */
    private static void twelveOfOneKind() {
        int[] ways = {729, 486, 243, 486, 243, 486};
        for (int kind = 0; kind <= 5; kind++) {
            WhoSigns x = Due.office(3, 6);
            for (int r = 0; r < 12; r++) {
                x.rule(kind, r % 2 == 0 || kind == OVER ? 34 : 43, kind == OVER ? 1 : 2);
            }
            Due.is("12: full", x.rule(kind, 34, 2), FULL);
            Due.is("23: ways with twelve of kind " + kind, x.ways(0), ways[kind]);
            Due.is("24: a way", x.way(1, 0), 0);
            Due.is("35: none is broken", x.judge(), NONE);
            Due.is("36: all is done", x.queue(-1), 6);
            for (int r = 0; r < 12; r++) {
                Due.is("17: kept by none alone", x.keeps(r, 1, 1), kind == RULE || kind == SAME ? 1 : 0);
            }
        }
    }

    /** 12 and 16: a RULE goes, and another one has room. */
    private static void roomAfterDrop() {
        WhoSigns x = FULL_ONE.make();
        Due.is("16: eleven", x.drop(0), 11);
        Due.is("12: one more", x.rule(SAME, 43, 8), 11);
        int[] due = {SAME, 4, 3, 8, 4, 1};
        for (int what = 0; what < due.length; what++) {
            Due.is("13: of the new one " + what, x.told(11, what), due[what]);
        }
        Due.is("12: full again", x.rule(SAME, 43, 8), FULL);
    }

    /** 12: of KINDS 0 .. 5. BAD. */
    private static void kindsOfRules() {
        WhoSigns x = Due.office(0, 2);
        for (int kind = 0; kind <= 5; kind++) {
            x.rule(kind, 1, 0);
            Due.is("12: kind " + kind, x.told(kind, 0), kind);
        }
        for (int v : outside(0, 5)) {
            FEW.refuses("12: kind " + v, BAD, o -> o.rule(v, 1, 0));
        }
    }

    /** 12: each of two unlike STEPS i and j. */
    private static void unlikeSteps() {
        for (int one = 0; one < 6; one++) {
            for (int other = 0; other < 6; other++) {
                WhoSigns x = Due.office(0, 6);
                Due.is("12: steps " + one + other, x.rule(RULE, 10 * one + other, 0), one == other ? BAD : 0);
                Due.is("13: i", x.told(0, 1), one == other ? BAD : one);
                Due.is("13: j", x.told(0, 2), one == other ? BAD : other);
            }
        }
    }

    /** 12: (that there are). */
    private static void stepsThatThereAre() {
        int[] wrong = {3, 13, 30, 31, 9, 10 * 9, 33, 102, 120, -1, -2, -10, -12, -21, 100, MIN, MAX, MIN + 1, MAX - 1};
        for (int v : wrong) {
            FEW.refuses("12: steps " + v, BAD, o -> o.rule(RULE, v, 0));
        }
        Due.is("12: one step alone", Due.office(0, 1).rule(RULE, 1, 0), BAD);
        WhoSigns x = Due.office(0, 5);
        Due.is("12: no sixth step", x.rule(RULE, 5, 0), BAD);
        Due.is("12: no sixth step", x.rule(RULE, 50, 0), BAD);
        x.step(-1, 0, 1);
        Due.is("12: a sixth step", x.rule(RULE, 5, 0), 0);
        Due.is("12: a sixth step", x.rule(RULE, 50, 0), 1);
        Due.is("12: a seventh step", x.rule(RULE, 6, 0), BAD);
        Due.is("12: a seventh step", x.rule(RULE, 60, 0), BAD);
    }

    /** 12: and a number n 0 .. 9. */
    private static void numbersOfRules() {
        WhoSigns x = Due.office(0, 2);
        x.rule(RULE, 1, 0);
        x.rule(RULE, 1, 9);
        Due.is("13: n 0", x.told(0, 3), 0);
        Due.is("13: n 9", x.told(1, 3), 9);
        for (int v : outside(0, 9)) {
            FEW.refuses("12: n " + v, BAD, o -> o.rule(RULE, 1, v));
        }
    }

    /** 13: what 0 .. 5. BAD. */
    private static void toldOfRules() {
        for (int v : outside(0, 5)) {
            FEW.refuses("13: what " + v, BAD, o -> o.told(0, v));
        }
    }

    /** 13 .. 17: BAD, of RULES that there are not. */
    private static void rulesThatAreNot() {
        for (int v : outside(0, 2)) {
            FEW.refuses("13: rule " + v, BAD, o -> o.told(v, 0));
            FEW.refuses("14: rule " + v, BAD, o -> o.as(v, 0));
            FEW.refuses("15: rule " + v, BAD, o -> o.turns(v, 1));
            FEW.refuses("16: rule " + v, BAD, o -> o.drop(v));
            FEW.refuses("17: rule " + v, BAD, o -> o.keeps(v, 0, 1));
        }
        for (int v : outside(0, 11)) {
            FULL_ONE.refuses("13: rule " + v, BAD, o -> o.told(v, 5));
            FULL_ONE.refuses("15: rule " + v, BAD, o -> o.turns(v, 1));
            FULL_ONE.refuses("16: rule " + v, BAD, o -> o.drop(v));
        }
    }

    /** 13: WEIGHT, of n 0 and of n 9. */
    private static void weights() {
        int[] ofNone = {1, 1, 4, 2, 4, 0};
        int[] ofNine = {1, 10, 4, 20, 13, 81};
        for (int kind = 0; kind < 6; kind++) {
            WhoSigns x = Due.office(0, 2);
            x.rule(kind, 1, 0);
            x.rule(kind, 10, 9);
            Due.is("13: weight of kind " + kind + ", n 0", x.told(0, 4), ofNone[kind]);
            Due.is("13: weight of kind " + kind + ", n 9", x.told(1, 4), ofNine[kind]);
        }
    }

    /** Whether two people of such ranks and kins keep a rule of steps 0 and 1: by keeps, by ways, by sign. */
    private static void keeps(String what, int kind, int n, int[] a, int[] b, int due) {
        WhoSigns x = new WhoSigns();
        x.person(0, a[0], a[1]);
        x.person(0, b[0], b[1]);
        x.step(-1, 0, 1);
        x.step(-1, 0, 1);
        x.rule(kind, 1, n);
        Due.is("17: " + what, x.keeps(0, 0, 1), due);
        Due.is("33: " + what + ", signed", x.sign(0, 0), 1);
        Due.is("33: " + what + ", signed", x.sign(1, 1), due == 1 ? 2 : WhoSigns.NO);
        x.over();
        x.turns(0, RULE);
        x.sign(0, 0);
        x.sign(1, 1);
        x.turns(0, kind);
        Due.is("13: " + what + ", signed before", x.told(0, 5), due);
        Due.is("35: " + what + ", judged", x.judge(), due == 1 ? NONE : 0);
        Due.is("23: " + what + ", ways", x.ways(0), due);
    }

    private static int[] of(int rank, int kin) {
        return new int[] {rank, kin};
    }

    /** Whether one and the same keeps it. */
    private static int alone(int kind, int n) {
        WhoSigns x = Due.office(1, 2);
        x.rule(kind, 1, n);
        Due.is("23: ways of one alone", x.ways(0), x.keeps(0, 0, 0));
        return x.keeps(0, 0, 0);
    }

    /** 17: RULE: yes. */
    private static void ruleIsKept() {
        keeps("rule", RULE, 0, of(0, 1), of(0, 1), 1);
        keeps("rule", RULE, 9, of(9, 9), of(0, 9), 1);
        Due.is("17: rule, by one alone", alone(RULE, 9), 1);
    }

    /** 17: APART: a is not b. */
    private static void apartIsKept() {
        keeps("apart, of one kin", APART, 9, of(9, 5), of(0, 5), 1);
        Due.is("17: apart, by one alone", alone(APART, 0), 0);
    }

    /** 17: KIN: as APART, and they are not of one KIN other than 0. */
    private static void kinIsKept() {
        keeps("kin, of none both", KIN, 0, of(0, 0), of(0, 0), 1);
        keeps("kin, of 1 both", KIN, 0, of(0, 1), of(0, 1), 0);
        keeps("kin, of 9 both", KIN, 9, of(0, 9), of(0, 9), 0);
        keeps("kin, of 0 and 1", KIN, 0, of(0, 0), of(0, 1), 1);
        keeps("kin, of 9 and 0", KIN, 0, of(0, 9), of(0, 0), 1);
        keeps("kin, of 1 and 2", KIN, 0, of(0, 1), of(0, 2), 1);
        Due.is("17: kin, by one alone, of none", alone(KIN, 0), 0);
    }

    /** 17: OVER: as APART, and RANK of b is that of a and n, or more. */
    private static void overIsKept() {
        keeps("over by 0, like ranks", OVER, 0, of(4, 1), of(4, 1), 1);
        keeps("over by 0, one less", OVER, 0, of(4, 0), of(3, 0), 0);
        keeps("over by 3, just", OVER, 3, of(4, 0), of(7, 0), 1);
        keeps("over by 3, one less", OVER, 3, of(4, 0), of(6, 0), 0);
        keeps("over by 3, one more", OVER, 3, of(4, 0), of(8, 0), 1);
        keeps("over by 3, the other way", OVER, 3, of(7, 0), of(4, 0), 0);
        keeps("over by 9", OVER, 9, of(0, 0), of(9, 0), 1);
        keeps("over by 9, one less", OVER, 9, of(0, 0), of(8, 0), 0);
        keeps("over by 9, none can", OVER, 9, of(1, 0), of(9, 0), 0);
        Due.is("17: over by 0, by one alone", alone(OVER, 0), 0);
    }

    /** 17: SAME: a is b. */
    private static void sameIsKept() {
        keeps("same", SAME, 0, of(4, 4), of(4, 4), 0);
        Due.is("17: same, by one alone", alone(SAME, 9), 1);
    }

    /** 17: MANY: n unlike ones, or more. */
    private static void manyOfTwo() {
        int[] byTwo = {1, 1, 1, 0, 0, 0, 0, 0, 0, 0};
        int[] byOne = {1, 1, 0, 0, 0, 0, 0, 0, 0, 0};
        for (int n = 0; n <= 9; n++) {
            keeps("many " + n, MANY, n, of(4, 4), of(4, 4), byTwo[n]);
            Due.is("17: many " + n + ", by one alone", alone(MANY, n), byOne[n]);
        }
    }

    /** 17: those who do the STEPS from the lesser of i and j to the greater. */
    private static void manyFromLesserToGreater() {
        for (int steps : new int[] {14, 41}) {
            WhoSigns x = Due.office(7, 6);
            int[] who = {0, 1, 2, 2, 3, 4};
            for (int s = 0; s < 6; s++) {
                x.sign(s, who[s]);
            }
            for (int n = 0; n <= 9; n++) {
                x.rule(MANY, steps, n);
                Due.is("13: many " + n + " of 1, 2, 2, 3", x.told(n, 5), n <= 3 ? 1 : 0);
            }
            Due.is("35: the first that asks for four", x.judge(), 4);
        }
        WhoSigns some = Due.office(3, 5);
        some.rule(MANY, 13, 3);
        Due.is("23: three for 1 .. 3", some.ways(0), 9 * 6);
        some.turns(0, RULE);
        some.rule(MANY, 42, 3);
        Due.is("23: three for 2 .. 4", some.ways(0), 9 * 6);
        some.turns(0, MANY);
        Due.is("23: three for 1 .. 3 and for 2 .. 4", some.ways(0), 3 * 6);
        WhoSigns all = Due.office(6, 6);
        all.rule(MANY, 50, 6);
        Due.is("23: six of six", all.ways(0), 720);
        all.drop(0);
        all.rule(MANY, 5, 7);
        Due.is("23: seven of six", all.ways(0), 0);
        all.drop(0);
        all.rule(MANY, 5, 1);
        Due.is("23: one of six", all.ways(0), 46656);
    }

    /** 13: KEPT, too, as long as one of its STEPS has nobody. */
    private static void keptWhileNobodyDoes() {
        for (int kind = 0; kind <= 5; kind++) {
            for (int steps : new int[] {2, 20}) {
                WhoSigns x = Due.office(2, 3);
                x.sign(1, 0);
                x.rule(kind, steps, 9);
                Due.is("13: nobody does either, kind " + kind, x.told(0, 5), 1);
                Due.is("33: one does one, kind " + kind, x.sign(0, 1), 2);
                Due.is("13: nobody does the other, kind " + kind, x.told(0, 5), 1);
                x.over();
                Due.is("33: one does the other, kind " + kind, x.sign(2, 1), 1);
                Due.is("13: nobody does the one, kind " + kind, x.told(0, 5), 1);
                Due.is("35: none is broken", x.judge(), NONE);
            }
        }
        WhoSigns x = Due.office(2, 3);
        x.rule(SAME, 2, 0);
        x.sign(0, 0);
        Due.is("33: a step between has no part in it", x.sign(2, 1), WhoSigns.NO);
        Due.is("33: a step between has no part in it", x.sign(2, 0), 2);
    }

    /** 13: (of MANY: from the lesser to the greater). */
    private static void manyKeptWhileNobodyDoes() {
        for (int open = 0; open < 4; open++) {
            WhoSigns x = Due.office(2, 4);
            for (int s = 0; s < 4; s++) {
                if (s != open) {
                    x.sign(s, 0);
                }
            }
            x.rule(MANY, 31, 2);
            Due.is("13: many of 1 .. 3, " + open + " is open", x.told(0, 5), open == 0 ? 0 : 1);
            Due.is("17: many, between them is nobody", x.keeps(0, 0, 0), 1);
        }
    }

    /** 14: A RULE as one of a KIND: n. KIND: it is not of that KIND, nor of one under it. */
    private static void asKinds() {
        int[] above = {-1, RULE, RULE, APART, APART, RULE};
        for (int kind = 0; kind <= 5; kind++) {
            WhoSigns x = Due.office(0, 2);
            x.rule(kind, 1, 0);
            x.rule(kind, 1, 9);
            for (int other = 0; other <= 5; other++) {
                boolean isUnder = kind == other || above[kind] == other || above[kind] == APART && other == RULE;
                Due.is("14: " + kind + " as " + other, x.as(0, other), isUnder ? 0 : KIND);
                Due.is("14: " + kind + " as " + other, x.as(1, other), isUnder ? 9 : KIND);
            }
        }
        FEW.refuses("14: KIN as SAME", KIND, o -> o.as(0, SAME));
        FEW.refuses("14: KIN as OVER", KIND, o -> o.as(0, OVER));
        FEW.refuses("14: RULE as MANY", KIND, o -> o.as(2, MANY));
    }

    /** 14: BAD: rule, kind. */
    private static void asRefused() {
        for (int v : outside(0, 5)) {
            FEW.refuses("14: kind " + v, BAD, o -> o.as(0, v));
            FEW.refuses("14: rule and kind " + v, BAD, o -> o.as(3, v));
        }
        FEW.refuses("14: BAD stands ahead of KIND", BAD, o -> o.as(-1, SAME));
    }

    /** 15: A RULE is of a KIND from now on: what it was. */
    private static void turnsIntoKinds() {
        WhoSigns x = Due.office(2, 2);
        x.rule(RULE, 1, 2);
        int before = RULE;
        int[] ways = {4, 2, 2, 2, 0, 2};
        int[] weights = {1, 3, 4, 6, 6, 4};
        for (int kind : new int[] {5, 0, 4, 4, 3, 2, 1, 0}) {
            Due.is("15: what it was", x.turns(0, kind), before);
            Due.is("15: what it is", x.told(0, 0), kind);
            Due.is("15: its n stays", x.told(0, 3), 2);
            Due.is("15: its weight", x.told(0, 4), weights[kind]);
            Due.is("15: the ways", x.ways(0), ways[kind]);
            before = kind;
        }
    }

    /** 15: BAD. */
    private static void turnsRefused() {
        for (int v : outside(0, 5)) {
            FEW.refuses("15: kind " + v, BAD, o -> o.turns(0, v));
        }
    }

    /** 16: those with greater numbers have one less: how many there are. */
    private static void dropsShift() {
        for (int gone = 0; gone < 12; gone++) {
            WhoSigns x = Due.office(0, 6);
            for (int r = 0; r < 12; r++) {
                x.rule(r % 6, r % 5 + 1, r % 10);
            }
            Due.is("16: eleven are left", x.drop(gone), 11);
            Due.is("53: eleven", x.count(2), 11);
            for (int r = 0; r < 11; r++) {
                int was = r < gone ? r : r + 1;
                Due.is("16: kind of " + r, x.told(r, 0), was % 6);
                Due.is("16: j of " + r, x.told(r, 2), was % 5 + 1);
                Due.is("16: n of " + r, x.told(r, 3), was % 10);
            }
            Due.is("16: no twelfth", x.told(11, 0), BAD);
        }
        WhoSigns x = Due.office(0, 2);
        x.rule(APART, 1, 0);
        Due.is("16: the only one", x.drop(0), 0);
        Due.is("16: none is left", x.told(0, 0), BAD);
    }

    /** 16: BAD. */
    private static void dropsRefused() {
        Twin none = new Twin("no rules", () -> Due.office(2, 2));
        none.refuses("16: there is none", BAD, o -> o.drop(0));
        none.refuses("16: there is none", BAD, o -> o.drop(-1));
    }

    /** 17: if one did its i and another one (or the same) its j, nobody any other STEP. */
    private static void keepsBesideSignatures() {
        WhoSigns x = Due.office(3, 3);
        x.rule(MANY, 2, 2);
        x.rule(APART, 10, 0);
        x.rule(OVER, 20, 1);
        x.sign(0, 0);
        x.sign(1, 1);
        Due.is("17: who signed step 1 does not count", x.keeps(0, 0, 0), 1);
        Due.is("17: who signed does not count", x.keeps(1, 0, 1), 1);
        Due.is("17: the same", x.keeps(1, 2, 2), 0);
        Due.is("17: i is step 2", x.keeps(2, 0, 1), 1);
        Due.is("17: i is step 2", x.keeps(2, 1, 0), 0);
        Due.is("17: nothing is signed by it", x.stepTold(2, 3), NONE);
        Due.is("17: they need not be let", awayAndKept(), 1);
    }

    private static int awayAndKept() {
        WhoSigns x = Due.office(2, 2);
        x.rule(APART, 1, 0);
        x.away(0, 0, 999);
        return x.keeps(0, 0, 1);
    }

    /** 17: BAD. */
    private static void keepsRefused() {
        for (int v : outside(0, 2)) {
            FEW.refuses("17: one " + v, BAD, o -> o.keeps(0, v, 0));
            FEW.refuses("17: other " + v, BAD, o -> o.keeps(0, 0, v));
        }
        for (int v : outside(0, 6)) {
            FULL_ONE.refuses("17: one " + v, BAD, o -> o.keeps(0, v, 0));
            FULL_ONE.refuses("17: other " + v, BAD, o -> o.keeps(0, 0, v));
        }
        Due.is("17: without people", withoutPeople(), BAD);
    }

    private static int withoutPeople() {
        WhoSigns x = Due.office(0, 2);
        x.rule(RULE, 1, 0);
        return x.keeps(0, 0, 0);
    }
}
