/** Promises 1 to 11: a new object, people, steps. */
public final class PeopleTest {
    private static final int BAD = WhoSigns.BAD, FULL = WhoSigns.FULL, NONE = WhoSigns.NONE;

    public static void main(String[] args) {
        newObject();
        person();
        personTold();
        paper();
        away();
        stand();
        step();
        stepTold();
        days();
        may();
        mayByStanding();
        cost();
        Due.end("PeopleTest");
    }

    private static void newObject() {
        WhoSigns x = new WhoSigns();
        for (int what = 0; what <= 10; what++) {
            Due.is("1: count(" + what + ")", x.count(what), 0);
        }
        Due.is("1: count(11)", x.count(11), 1);
        Due.is("1: ways(0)", x.ways(0), 1);
        Due.is("1: way(0, -1)", x.way(0, -1), 0);
        Due.is("1: way(1, -1)", x.way(1, -1), 0);
        Due.is("1: way(0, 0)", x.way(0, 0), BAD);
        Due.is("1: why(0)", x.why(0), NONE);
        Due.is("1: judge()", x.judge(), NONE);
        Due.is("1: item(0, 0)", x.item(0, 0), WhoSigns.NOTHING);
        Due.is("1: mark(0, 0, 0)", x.mark(0, 0, 0), WhoSigns.NOTHING);
        Due.is("1: back()", x.back(), WhoSigns.NO);
    }

    private static void person() {
        WhoSigns x = new WhoSigns();
        Due.is("2: office -1", x.person(-1, 0, 0), BAD);
        Due.is("2: office 5", x.person(5, 0, 0), BAD);
        Due.is("2: rank -1", x.person(0, -1, 0), BAD);
        Due.is("2: rank 10", x.person(0, 10, 0), BAD);
        Due.is("2: kin -1", x.person(0, 0, -1), BAD);
        Due.is("2: kin 10", x.person(0, 0, 10), BAD);
        Due.is("2: none came", x.count(0), 0);
        for (int p = 0; p < 7; p++) {
            Due.is("2: person", x.person(p % 5, 9 - p, p), p);
        }
        Due.is("2: full", x.person(0, 0, 0), FULL);
        Due.is("2: bad ahead of full", x.person(5, 0, 0), BAD);
        Due.is("2: seven", x.count(0), 7);
    }

    private static void personTold() {
        WhoSigns x = new WhoSigns();
        x.person(4, 9, 3);
        x.person(0, 0, 0);
        int[] first = {4, 9, 3, 0, 0, NONE, NONE, 90};
        for (int what = 0; what < 8; what++) {
            Due.is("3: what " + what, x.personTold(0, what), first[what]);
        }
        x.paper(0, 0, true);
        x.paper(0, 7, true);
        Due.is("3: papers", x.personTold(0, 3), 129);
        x.stand(0, 1, 5);
        x.days(9);
        Due.is("3: stands, as told latest", x.personTold(0, 5), 1);
        Due.is("3: till, as told latest", x.personTold(0, 6), 5);
        Due.is("3: what 8", x.personTold(0, 8), BAD);
        Due.is("3: what -1", x.personTold(0, -1), BAD);
        Due.is("3: person 2", x.personTold(2, 0), BAD);
        Due.is("3: person -1", x.personTold(-1, 0), BAD);
        Due.text(x, "wait 0-r*1000-d");
        Due.is("3: wait by a text", x.personTold(0, 7), -9009);
        Due.text(x, "wait o*9999*9999*9999");
        Due.is("3: wait is any int", x.personTold(0, 7), 4 * 9999 * 9999 * 9999);
    }

    private static void paper() {
        WhoSigns x = new WhoSigns();
        x.person(0, 0, 0);
        Due.is("4: not had, not had", x.paper(0, 3, false), 0);
        Due.is("4: new", x.paper(0, 3, true), 1);
        Due.is("4: had", x.paper(0, 3, true), 0);
        Due.is("4: gone", x.paper(0, 3, false), 1);
        Due.is("4: none", x.personTold(0, 3), 0);
        Due.is("4: paper 8", x.paper(0, 8, true), BAD);
        Due.is("4: paper -1", x.paper(0, -1, true), BAD);
        Due.is("4: person 1", x.paper(1, 0, true), BAD);
        Due.is("4: nothing came", x.personTold(0, 3), 0);
    }

    private static void away() {
        WhoSigns x = new WhoSigns();
        x.person(0, 0, 0);
        Due.is("5: today", x.away(0, 0, 0), 1);
        Due.is("5: told", x.personTold(0, 4), 1);
        Due.is("5: not from -1", x.away(0, -1, 4), BAD);
        Due.is("5: not to 1000", x.away(0, 0, 1000), BAD);
        Due.is("5: person 1", x.away(1, 0, 0), BAD);
        Due.is("5: still", x.personTold(0, 4), 1);
        Due.is("5: never", x.away(0, 1, 0), 0);
        Due.is("5: from tomorrow", x.away(0, 1, 999), 0);
        x.days(1);
        Due.is("5: both of them", x.personTold(0, 4), 1);
        Due.is("5: up to today", x.away(0, 0, 1), 1);
        x.days(1);
        Due.is("5: gone by", x.personTold(0, 4), 0);
    }

    private static void stand() {
        WhoSigns x = new WhoSigns();
        x.person(0, 0, 0);
        x.person(0, 0, 0);
        Due.is("6: for none before", x.stand(0, 1, 999), NONE);
        Due.is("6: again", x.stand(0, 1, 0), 1);
        Due.is("6: themselves", x.stand(0, 0, 5), BAD);
        Due.is("6: no such one", x.stand(0, 2, 5), BAD);
        Due.is("6: other -2", x.stand(0, -2, 5), BAD);
        Due.is("6: till -1", x.stand(0, 1, -1), BAD);
        Due.is("6: till 1000", x.stand(0, 1, 1000), BAD);
        Due.is("6: person 2", x.stand(2, -1, 5), BAD);
        Due.is("6: still 1", x.personTold(0, 5), 1);
        Due.is("6: still till 0", x.personTold(0, 6), 0);
        Due.is("6: for none, till any", x.stand(0, -1, -77), 1);
        Due.is("6: none", x.personTold(0, 5), NONE);
        Due.is("6: none", x.personTold(0, 6), NONE);
        Due.is("6: none twice", x.stand(0, -1, 5000), NONE);
        x.stand(1, 0, 0);
        Due.is("6: for 0", x.personTold(1, 5), 0);
        Due.is("6: till 0", x.personTold(1, 6), 0);
        x.days(5);
        Due.is("6: for whom they were, as told latest", x.stand(1, -1, 0), 0);
    }

    private static void step() {
        WhoSigns x = new WhoSigns();
        Due.is("7: paper -2", x.step(-2, 0, 1), BAD);
        Due.is("7: paper 8", x.step(8, 0, 1), BAD);
        Due.is("7: least -1", x.step(0, -1, 1), BAD);
        Due.is("7: least 10", x.step(0, 10, 1), BAD);
        Due.is("7: minutes 0", x.step(0, 0, 0), BAD);
        Due.is("7: minutes 61", x.step(0, 0, 61), BAD);
        for (int s = 0; s < 6; s++) {
            Due.is("7: step", x.step(s - 1, s, s + 1), s);
        }
        Due.is("7: full", x.step(0, 0, 1), FULL);
        Due.is("7: bad ahead of full", x.step(0, 0, 61), BAD);
    }

    private static void stepTold() {
        WhoSigns x = new WhoSigns();
        x.person(0, 5, 0);
        x.person(0, 6, 0);
        x.step(-1, 5, 60);
        x.step(7, 9, 1);
        Due.is("8: no paper", x.stepTold(0, 0), NONE);
        Due.is("8: paper", x.stepTold(1, 0), 7);
        x.step(0, 0, 1);
        Due.is("8: paper 0", x.stepTold(2, 0), 0);
        Due.is("8: least", x.stepTold(0, 1), 5);
        Due.is("8: minutes", x.stepTold(0, 2), 60);
        Due.is("8: open", x.stepTold(0, 3), NONE);
        Due.is("8: how many may", x.stepTold(0, 4), 2);
        Due.is("8: none may", x.stepTold(1, 4), 0);
        x.sign(0, 1);
        Due.is("8: signed", x.stepTold(0, 3), 1);
        x.paper(0, 0, true);
        x.sign(2, 0);
        Due.is("8: signed by 0", x.stepTold(2, 3), 0);
        Due.is("8: how many may, signed too", x.stepTold(0, 4), 2);
        x.away(1, 0, 0);
        Due.is("8: one is away", x.stepTold(0, 4), 1);
        Due.is("8: what 5", x.stepTold(0, 5), BAD);
        Due.is("8: what -1", x.stepTold(0, -1), BAD);
        Due.is("8: step 3", x.stepTold(3, 0), BAD);
        Due.is("8: step -1", x.stepTold(-1, 0), BAD);
    }

    private static void days() {
        WhoSigns x = new WhoSigns();
        Due.is("9: 0", x.days(0), BAD);
        Due.is("9: 100", x.days(100), BAD);
        Due.is("9: -1", x.days(-1), BAD);
        for (int k = 1; k <= 10; k++) {
            Due.is("9: 99", x.days(99), 99 * k);
        }
        Due.is("9: above 999", x.days(10), FULL);
        Due.is("9: bad ahead of full", x.days(100), BAD);
        Due.is("9: up to 999", x.days(9), 999);
        Due.is("9: no more", x.days(1), FULL);
        Due.is("9: today", x.count(10), 999);
    }

    private static void may() {
        WhoSigns x = new WhoSigns();
        x.person(2, 4, 0);
        x.step(1, 4, 1);
        x.step(-1, 5, 1);
        Due.is("10: without the paper", x.may(0, 0, 0), 0);
        x.paper(0, 1, true);
        Due.is("10: rank just least", x.may(0, 0, 999), 1);
        Due.is("10: rank below", x.may(0, 1, 0), 0);
        x.away(0, 10, 20);
        Due.is("10: away from", x.may(0, 0, 10), 0);
        Due.is("10: away to", x.may(0, 0, 20), 0);
        Due.is("10: before", x.may(0, 0, 9), 1);
        Due.is("10: behind", x.may(0, 0, 21), 1);
        Due.text(x, "may d>5&o=2&r=4&k=0");
        Due.is("10: by the text not", x.may(0, 0, 5), 0);
        Due.is("10: by the text", x.may(0, 0, 6), 1);
        Due.text(x, "may k<1");
        Due.is("10: by the step's number", x.may(0, 0, 5), 1);
        Due.text(x, "may k");
        Due.is("10: by the step's number", x.may(0, 0, 5), 0);
        Due.text(x, "may 0-3");
        Due.is("10: what is not 0", x.may(0, 0, 5), 1);
        Due.is("10: day -1", x.may(0, 0, -1), BAD);
        Due.is("10: day 1000", x.may(0, 0, 1000), BAD);
        Due.is("10: person 1", x.may(1, 0, 0), BAD);
        Due.is("10: step 2", x.may(0, 2, 0), BAD);
        Due.is("10: step -1", x.may(0, -1, 0), BAD);
    }

    private static void mayByStanding() {
        WhoSigns x = new WhoSigns();
        x.person(0, 0, 0);
        x.person(0, 0, 0);
        x.person(0, 0, 0);
        x.step(6, 0, 1);
        x.paper(2, 6, true);
        x.stand(1, 2, 7);
        x.stand(0, 1, 7);
        Due.is("10: the other one is here", x.may(1, 0, 3), 0);
        x.away(2, 3, 9);
        Due.is("10: the other one is away", x.may(1, 0, 3), 1);
        Due.is("10: not yet away", x.may(1, 0, 2), 0);
        Due.is("10: till that day", x.may(1, 0, 7), 1);
        Due.is("10: no longer", x.may(1, 0, 8), 0);
        x.away(1, 7, 7);
        Due.is("10: they are away themselves", x.may(1, 0, 7), 0);
        Due.is("10: nobody stands for one who stands", x.may(0, 0, 7), 0);
    }

    private static void cost() {
        WhoSigns x = new WhoSigns();
        x.person(3, 9, 0);
        x.step(-1, 0, 60);
        Due.is("11: without a text", x.cost(0, 0), 600);
        Due.text(x, "cost m*r+o");
        Due.is("11: by a text", x.cost(0, 0), 543);
        Due.text(x, "cost 0-1");
        Due.is("11: not below 0", x.cost(0, 0), 0);
        Due.text(x, "cost 9999+1");
        Due.is("11: not above 9999", x.cost(0, 0), 9999);
        Due.text(x, "cost 9999");
        Due.is("11: 9999", x.cost(0, 0), 9999);
        Due.is("11: person 1", x.cost(1, 0), BAD);
        Due.is("11: step 1", x.cost(0, 1), BAD);
        Due.is("11: step -1", x.cost(0, -1), BAD);
    }
}
