/** Promises 12 to 17: rules. */
public final class RulesTest {
    private static final int BAD = WhoSigns.BAD, FULL = WhoSigns.FULL, NONE = WhoSigns.NONE, KIND = WhoSigns.KIND;

    public static void main(String[] args) {
        rule();
        told();
        kept();
        as();
        turns();
        drop();
        keeps();
        Due.end("RulesTest");
    }

    private static WhoSigns withSteps(int steps) {
        WhoSigns x = new WhoSigns();
        x.person(0, 1, 1);
        x.person(0, 3, 1);
        x.person(0, 3, 0);
        x.person(0, 5, 0);
        for (int s = 0; s < steps; s++) {
            x.step(-1, 0, 1);
        }
        return x;
    }

    private static void rule() {
        WhoSigns x = withSteps(3);
        Due.is("12: kind -1", x.rule(-1, 1, 0), BAD);
        Due.is("12: kind 6", x.rule(6, 1, 0), BAD);
        Due.is("12: like steps", x.rule(0, 11, 0), BAD);
        Due.is("12: steps 0", x.rule(0, 0, 0), BAD);
        Due.is("12: no step 3", x.rule(0, 3, 0), BAD);
        Due.is("12: no step 3", x.rule(0, 30, 0), BAD);
        Due.is("12: steps -1", x.rule(0, -1, 0), BAD);
        Due.is("12: steps -10", x.rule(0, -10, 0), BAD);
        Due.is("12: steps 102", x.rule(0, 102, 0), BAD);
        Due.is("12: n -1", x.rule(0, 1, -1), BAD);
        Due.is("12: n 10", x.rule(0, 1, 10), BAD);
        for (int r = 0; r < 12; r++) {
            Due.is("12: rule", x.rule(r % 6, r % 2 == 0 ? 21 : 2, r % 10), r);
        }
        Due.is("12: full", x.rule(0, 1, 0), FULL);
        Due.is("12: bad ahead of full", x.rule(0, 0, 0), BAD);
        Due.is("12: twelve", x.count(2), 12);
        Due.is("12: without steps", new WhoSigns().rule(0, 1, 0), BAD);
    }

    private static void told() {
        WhoSigns x = withSteps(3);
        int[] weights = {1, 1 + 7, 4, 2 * (1 + 7), 1 + 7 + 3, 49};
        for (int kind = 0; kind < 6; kind++) {
            x.rule(kind, 20, 7);
            Due.is("13: kind", x.told(kind, 0), kind);
            Due.is("13: i", x.told(kind, 1), 2);
            Due.is("13: j", x.told(kind, 2), 0);
            Due.is("13: n", x.told(kind, 3), 7);
            Due.is("13: weight", x.told(kind, 4), weights[kind]);
            Due.is("13: kept by nobody", x.told(kind, 5), 1);
        }
        Due.is("13: what 6", x.told(0, 6), BAD);
        Due.is("13: what -1", x.told(0, -1), BAD);
        Due.is("13: rule 6", x.told(6, 0), BAD);
        Due.is("13: rule -1", x.told(-1, 0), BAD);
    }

    private static void kept() {
        WhoSigns x = withSteps(3);
        x.sign(0, 1);
        x.rule(2, 1, 0);
        x.rule(1, 1, 0);
        x.rule(5, 2, 2);
        Due.is("13: same, one has signed", x.told(0, 5), 1);
        x.drop(0);
        x.sign(1, 2);
        x.rule(2, 1, 0);
        Due.is("13: apart", x.told(0, 5), 1);
        Due.is("13: many, one is open", x.told(1, 5), 1);
        Due.is("13: same", x.told(2, 5), 0);
        Due.is("13: judge", x.judge(), 2);
    }

    private static void as() {
        WhoSigns x = withSteps(2);
        boolean[][] under = {
            {true, false, false, false, false, false},
            {true, true, false, false, false, false},
            {true, false, true, false, false, false},
            {true, true, false, true, false, false},
            {true, true, false, false, true, false},
            {true, false, false, false, false, true},
        };
        for (int kind = 0; kind < 6; kind++) {
            x.rule(kind, 1, kind + 2);
            for (int other = 0; other < 6; other++) {
                Due.is("14: " + kind + " as " + other, x.as(kind, other), under[kind][other] ? kind + 2 : KIND);
            }
        }
        Due.is("14: kind 6", x.as(0, 6), BAD);
        Due.is("14: kind -1", x.as(0, -1), BAD);
        Due.is("14: rule 6", x.as(6, 0), BAD);
    }

    private static void turns() {
        WhoSigns x = withSteps(2);
        x.rule(3, 1, 4);
        Due.is("15: was", x.turns(0, 5), 3);
        Due.is("15: is", x.told(0, 0), 5);
        Due.is("15: weight", x.told(0, 4), 16);
        Due.is("15: kind 6", x.turns(0, 6), BAD);
        Due.is("15: kind -1", x.turns(0, -1), BAD);
        Due.is("15: rule 1", x.turns(1, 0), BAD);
        Due.is("15: still", x.turns(0, 5), 5);
    }

    private static void drop() {
        WhoSigns x = withSteps(2);
        x.rule(1, 1, 1);
        x.rule(2, 10, 2);
        x.rule(3, 1, 3);
        Due.is("16: rule 3", x.drop(3), BAD);
        Due.is("16: rule -1", x.drop(-1), BAD);
        Due.is("16: two are left", x.drop(0), 2);
        Due.is("16: one less", x.told(0, 0), 2);
        Due.is("16: one less", x.told(0, 1), 1);
        Due.is("16: one less", x.told(1, 3), 3);
        Due.is("16: gone", x.told(2, 0), BAD);
        Due.is("16: the last", x.drop(1), 1);
        Due.is("16: none", x.drop(0), 0);
        Due.is("16: no more", x.drop(0), BAD);
    }

    private static void keeps() {
        WhoSigns x = withSteps(4);
        x.rule(0, 1, 0);
        x.rule(1, 1, 0);
        x.rule(2, 1, 0);
        x.rule(3, 1, 0);
        x.rule(4, 1, 2);
        x.rule(5, 1, 2);
        x.rule(5, 20, 9);
        x.rule(4, 10, 2);
        keepsAre(x, 0, 0, 1, 1, 1, 1);
        keepsAre(x, 1, 1, 0, 1, 1, 1);
        keepsAre(x, 2, 0, 1, 0, 0, 0);
        keepsAre(x, 3, 0, 0, 1, 1, 1);
        keepsAre(x, 4, 0, 0, 1, 1, 1);
        keepsAre(x, 5, 1, 0, 1, 1, 1);
        keepsAre(x, 6, 1, 1, 1, 1, 1);
        Due.is("17: kin 0 is none", x.keeps(3, 2, 3), 1);
        Due.is("17: over by n", x.keeps(4, 0, 1), 1);
        Due.is("17: over by less", x.keeps(4, 1, 2), 0);
        Due.is("17: over, the other way", x.keeps(4, 1, 0), 0);
        Due.is("17: i is step 1", x.keeps(7, 0, 1), 1);
        Due.is("17: i is step 1", x.keeps(7, 1, 0), 0);
        x.turns(4, 4);
        x.sign(1, 0);
        Due.is("17: nobody any other step", x.keeps(6, 0, 0), 1);
        Due.is("17: rule 8", x.keeps(8, 0, 0), BAD);
        Due.is("17: person 4", x.keeps(0, 4, 0), BAD);
        Due.is("17: person -1", x.keeps(0, 0, -1), BAD);
        Due.is("17: nothing is signed by it", x.stepTold(0, 3), NONE);
    }

    /** Of 0 (rank 1, kin 1), 1 (rank 3, kin 1), 2 (rank 3, kin 0), 3 (rank 5, kin 0). */
    private static void keepsAre(WhoSigns x, int rule, int by01, int by00, int by02, int by03, int by13) {
        Due.is("17: rule " + rule + " by 0, 0", x.keeps(rule, 0, 0), by00);
        Due.is("17: rule " + rule + " by 0, 2", x.keeps(rule, 0, 2), by02);
        Due.is("17: rule " + rule + " by 0, 3", x.keeps(rule, 0, 3), by03);
        Due.is("17: rule " + rule + " by 1, 3", x.keeps(rule, 1, 3), by13);
        if (rule != 4 && rule != 0) {
            Due.is("17: rule " + rule + " by 0, 1", x.keeps(rule, 0, 1), by01);
        }
    }
}
