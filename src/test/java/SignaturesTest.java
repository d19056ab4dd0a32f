/** Promises 33 to 40: signatures. */
public final class SignaturesTest {
    private static final int BAD = WhoSigns.BAD, NONE = WhoSigns.NONE, NO = WhoSigns.NO;

    public static void main(String[] args) {
        sign();
        over();
        judge();
        queue();
        queueByWait();
        queueInRounds();
        log();
        logGoesOn();
        audit();
        seed();
        luck();
        Due.end("SignaturesTest");
    }

    private static void sign() {
        WhoSigns x = Due.office(3, 3);
        x.rule(1, 1, 0);
        Due.is("33: step 3", x.sign(3, 0), BAD);
        Due.is("33: step -1", x.sign(-1, 0), BAD);
        Due.is("33: person 3", x.sign(0, 3), BAD);
        Due.is("33: person -1", x.sign(0, -1), BAD);
        Due.is("33: signed", x.sign(0, 0), 1);
        Due.is("33: not open", x.sign(0, 0), NO);
        Due.is("33: not open", x.sign(0, 1), NO);
        Due.is("33: bad ahead of no", x.sign(0, 3), BAD);
        Due.is("33: a rule", x.sign(1, 0), NO);
        x.away(2, 0, 0);
        Due.is("33: may not", x.sign(1, 2), NO);
        Due.is("33: two", x.sign(1, 1), 2);
        Due.is("33: logged", x.count(6), 2);
        x.turns(0, 2);
        Due.is("33: another rule is broken", x.sign(2, 0), NO);
        Due.is("33: open", x.stepTold(2, 3), NONE);
        x.drop(0);
        Due.is("33: three", x.sign(2, 0), 3);
        WhoSigns y = Due.office(2, 3);
        y.rule(5, 2, 3);
        Due.is("33: many, some are open", y.sign(0, 0), 1);
        Due.is("33: many, some are open", y.sign(2, 0), 2);
        Due.is("33: many", y.sign(1, 1), NO);
    }

    private static void over() {
        WhoSigns x = Due.office(2, 3);
        Due.is("34: none", x.over(), 0);
        x.sign(0, 0);
        x.sign(2, 1);
        Due.is("34: two", x.over(), 2);
        Due.is("34: open", x.stepTold(0, 3), NONE);
        Due.is("34: open", x.stepTold(2, 3), NONE);
        Due.is("34: none signed", x.count(3), 0);
        Due.is("34: the log stays", x.count(6), 2);
        Due.is("34: again", x.sign(0, 1), 1);
    }

    private static void judge() {
        WhoSigns x = Due.office(2, 2);
        Due.is("35: no rules", x.judge(), NONE);
        x.sign(0, 0);
        x.sign(1, 0);
        x.rule(2, 1, 0);
        Due.is("35: kept", x.judge(), NONE);
        x.rule(3, 1, 0);
        x.rule(1, 1, 0);
        Due.is("35: the first", x.judge(), 1);
        x.drop(1);
        Due.is("35: the next", x.judge(), 1);
        x.drop(0);
        Due.is("35: rule 0", x.judge(), 0);
        x.over();
        Due.is("35: nobody signed", x.judge(), NONE);
    }

    private static void queue() {
        WhoSigns x = Due.office(2, 3);
        Due.is("36: what -2", x.queue(-2), BAD);
        Due.is("36: what 3", x.queue(3), BAD);
        Due.is("36: all", x.queue(-1), 3);
        Due.is("36: the first", x.queue(0), 0);
        Due.is("36: the next", x.queue(1), 1);
        Due.is("36: the second round", x.queue(2), 0);
        Due.is("36: nothing is signed", x.count(3), 0);
        Due.is("36: nothing is logged", x.count(6), 0);
        x.rule(1, 2, 0);
        Due.is("36: not 0 again", x.queue(2), 1);
        x.away(1, 0, 0);
        Due.is("36: nobody", x.queue(2), NONE);
        Due.is("36: two", x.queue(-1), 2);
        x.sign(2, 0);
        Due.is("36: signed", x.queue(2), 0);
        Due.is("36: the rule is kept", x.queue(0), NONE);
        Due.is("36: two, a signed one too", x.queue(-1), 2);
        Due.is("36: no steps", Due.office(2, 0).queue(-1), 0);
        Due.is("36: no steps", Due.office(2, 0).queue(0), BAD);
        Due.is("36: no people", Due.office(0, 2).queue(-1), 0);
        broken();
    }

    private static void broken() {
        WhoSigns x = Due.office(2, 3);
        x.sign(0, 0);
        x.sign(1, 1);
        x.rule(2, 1, 0);
        Due.is("36: none goes on with a broken rule", x.queue(-1), 2);
    }

    private static void queueByWait() {
        WhoSigns x = Due.office(3, 3);
        Due.text(x, "wait (9999-r)*(1-r)*9999*43");
        Due.is("36: wait wraps", x.personTold(0, 7), 9999 * 9999 * 43);
        Due.is("36: wait wraps", x.personTold(2, 7), -9997 * 9999 * 43);
        Due.is("36: by wait", x.queue(0), least(x));
        Due.text(x, "wait 0-r");
        Due.is("36: the least first", x.queue(0), 2);
        Due.is("36: the least first", x.queue(2), 0);
        Due.text(x, "wait 1");
        Due.is("36: of like ones by numbers", x.queue(0), 0);
        Due.is("36: of like ones by numbers", x.queue(2), 2);
        Due.text(x, "wait (d-3)*r");
        Due.is("36: by the day", x.queue(0), 2);
        x.days(9);
        Due.is("36: by the day", x.queue(0), 0);
    }

    private static int least(WhoSigns x) {
        int best = 0;
        for (int p = 1; p < 3; p++) {
            if (x.personTold(p, 7) < x.personTold(best, 7)) {
                best = p;
            }
        }
        return best;
    }

    private static void queueInRounds() {
        WhoSigns x = new WhoSigns();
        x.person(0, 1, 0);
        x.person(0, 2, 0);
        for (int s = 0; s < 6; s++) {
            x.step(-1, s == 5 ? 2 : 0, 1);
        }
        for (int s = 1; s < 6; s++) {
            x.rule(2, s, 0);
        }
        Due.is("36: five rounds", x.queue(-1), 5);
        Due.is("36: all by the first", x.queue(4), 0);
        Due.is("36: the last by nobody", x.queue(5), NONE);
        Due.text(x, "wait 0-r");
        Due.is("36: six rounds", x.queue(-1), 6);
        Due.is("36: six rounds", x.queue(5), 1);
    }

    private static void log() {
        WhoSigns x = Due.office(2, 1);
        Due.is("37: none", x.log(0, 0), NONE);
        Due.is("37: i -1", x.log(-1, 0), BAD);
        Due.is("37: what 3", x.log(0, 3), BAD);
        Due.is("37: what -1", x.log(0, -1), BAD);
        for (int k = 0; k < 30; k++) {
            x.sign(0, k % 2);
            x.over();
            x.days(1);
        }
        Due.is("37: thirty", x.count(6), 30);
        Due.is("37: the first", x.log(0, 0), 0);
        x.step(-1, 0, 1);
        x.sign(1, 1);
        Due.is("37: thirty", x.count(6), 30);
        Due.is("37: the first went", x.log(0, 0), 1);
        Due.is("37: the first went", x.log(0, 2), 1);
        Due.is("37: the last", x.log(29, 0), 30);
        Due.is("37: the last", x.log(29, 1), 1);
        Due.is("37: the last", x.log(29, 2), 1);
        Due.is("37: not so many", x.log(30, 0), NONE);
    }

    private static void logGoesOn() {
        WhoSigns x = Due.office(7, 6);
        for (int k = 0; k < 50; k++) {
            x.sign(k % 6, k % 7);
            x.over();
            x.days(1);
        }
        for (int i = 0; i < 30; i++) {
            int k = i + 20;
            Due.is("37: day of " + i, x.log(i, 0), k);
            Due.is("37: step of " + i, x.log(i, 1), k % 6);
            Due.is("37: person of " + i, x.log(i, 2), k % 7);
        }
    }

    private static void audit() {
        WhoSigns x = Due.office(2, 3);
        Due.is("38: none", x.audit(-1), 0);
        Due.is("38: none", x.audit(0), NONE);
        Due.is("38: -2", x.audit(-2), BAD);
        x.sign(0, 0);
        x.sign(1, 1);
        x.sign(2, 0);
        Due.is("38: all may", x.audit(-1), 0);
        Due.text(x, "may r>0");
        Due.is("38: two", x.audit(-1), 2);
        Due.is("38: the first", x.audit(0), 0);
        Due.is("38: the next", x.audit(1), 2);
        Due.is("38: no more", x.audit(2), NONE);
        x.away(1, 0, 0);
        Due.is("38: three", x.audit(-1), 3);
        x.over();
        Due.is("38: over too", x.audit(2), 2);
        x.days(1);
        Due.is("38: today's", x.audit(-1), 2);
    }

    private static void seed() {
        WhoSigns x = new WhoSigns();
        Due.is("39: 1 at first", x.seed(-7), 1);
        Due.is("39: what it was", x.seed(Integer.MAX_VALUE), -7);
        Due.is("39: z", x.count(11), Integer.MAX_VALUE);
    }

    private static void luck() {
        WhoSigns x = Due.office(3, 2);
        x.rule(1, 1, 0);
        Due.is("40: 0", x.luck(0), BAD);
        Due.is("40: 61", x.luck(61), BAD);
        Due.is("40: z stays", x.count(11), 1);
        Due.is("40: one trial, two of three are missing", x.luck(1), 0);
        Due.is("40: z of one trial", x.seed(1), draws(1, 3));
        int z = 1;
        int lucky = 0;
        for (int trial = 0; trial < 60; trial++) {
            int here = 0;
            for (int p = 0; p < 3; p++) {
                z = z * 1103515245 + 12345;
                here += (z >>> 8) % 4 == 0 ? 0 : 1;
            }
            lucky += here >= 2 ? 1 : 0;
        }
        Due.is("40: 60", x.luck(60), lucky);
        Due.is("40: z goes on", x.count(11), z);
        Due.is("40: without people", Due.office(0, 0).luck(60), 60);
        Due.is("40: without people", Due.office(0, 1).luck(60), 0);
        WhoSigns y = Due.office(1, 1);
        y.sign(0, 0);
        Due.is("40: signed", y.luck(60), 60);
    }

    private static int draws(int z, int many) {
        for (int k = 0; k < many; k++) {
            z = z * 1103515245 + 12345;
        }
        return z;
    }
}
