/** Promises 23 to 32: ways. */
public final class WaysTest {
    private static final int BAD = WhoSigns.BAD, FULL = WhoSigns.FULL, NONE = WhoSigns.NONE, NO = WhoSigns.NO;

    public static void main(String[] args) {
        ways();
        way();
        must();
        sly();
        missing();
        bears();
        offers();
        teach();
        teachOneWhoIsAway();
        soon();
        Due.end("WaysTest");
    }

    private static void ways() {
        Due.is("23: without steps", Due.office(2, 0).ways(0), 1);
        Due.is("23: without people", Due.office(0, 2).ways(0), 0);
        Due.is("23: all", Due.office(7, 6).ways(999), 117649);
        WhoSigns x = Due.office(4, 4);
        x.rule(1, 3, 0);
        Due.is("23: apart", x.ways(0), 192);
        x.rule(2, 12, 0);
        Due.is("23: same", x.ways(0), 48);
        x.rule(5, 3, 3);
        Due.is("23: many", x.ways(0), 24);
        x.sign(0, 1);
        Due.is("23: one is signed", x.ways(0), 6);
        x.away(1, 0, 0);
        Due.is("23: one who signed is away", x.ways(0), 6);
        Due.is("23: as on another day", x.ways(1), 6);
        x.away(2, 0, 0);
        Due.is("23: another one is away", x.ways(0), 2);
        Due.is("23: day -1", x.ways(-1), BAD);
        Due.is("23: day 1000", x.ways(1000), BAD);
        WhoSigns y = Due.office(3, 2);
        y.rule(4, 10, 1);
        Due.is("23: over", y.ways(0), 3);
        y.sign(1, 1);
        y.turns(0, 0);
        y.sign(0, 0);
        y.turns(0, 4);
        Due.is("23: those who signed break a rule", y.ways(0), 0);
    }

    private static void way() {
        WhoSigns x = Due.office(3, 3);
        x.rule(1, 1, 0);
        x.rule(4, 2, 1);
        Due.is("24: first", x.way(0, 0), 0);
        Due.is("24: first", x.way(0, 1), 1);
        Due.is("24: first", x.way(0, 2), 1);
        Due.is("24: its cost", x.way(0, -1), 50);
        Due.is("24: cheapest, its cost", x.way(1, -1), 50);
        Due.text(x, "cost 9-r*r");
        Due.is("24: first", x.way(0, -1), 25);
        Due.is("24: cheapest, by a text", x.way(1, -1), 18);
        Due.is("24: cheapest", x.way(1, 0), 1);
        Due.is("24: cheapest", x.way(1, 1), 2);
        Due.is("24: cheapest", x.way(1, 2), 2);
        Due.text(x, "cost 5");
        Due.is("24: of several the first", x.way(1, 2), 1);
        x.sign(0, 0);
        Due.is("24: of open ones alone", x.way(0, -1), 10);
        Due.is("24: who signed", x.way(1, 0), 0);
        Due.is("24: which 2", x.way(2, 0), BAD);
        Due.is("24: which -1", x.way(-1, 0), BAD);
        Due.is("24: what -2", x.way(0, -2), BAD);
        Due.is("24: what 3", x.way(0, 3), BAD);
        Due.text(x, "may 0");
        Due.is("24: none", x.way(0, -1), NONE);
        Due.is("24: none", x.way(1, 1), NONE);
        Due.is("24: bad ahead of none", x.way(1, 3), BAD);
        cheapestAnew();
        WhoSigns y = Due.office(2, 6);
        Due.text(y, "cost 9999");
        Due.is("24: the dearest", y.way(1, -1), 6 * 9999);
    }

    /** What an earlier call found dear must not stand in the way of a later one. */
    private static void cheapestAnew() {
        WhoSigns x = new WhoSigns();
        x.person(0, 5, 0);
        x.person(0, 1, 0);
        x.person(0, 0, 0);
        x.step(-1, 0, 1);
        x.step(-1, 0, 1);
        x.rule(1, 1, 0);
        x.keep();
        x.step(-1, 0, 60);
        x.rule(1, 12, 0);
        Due.text(x, "cost 999*m");
        Due.is("24: dear", x.way(1, -1), 999 + 999 + 9999);
        Due.text(x, "cost r");
        Due.is("24: cheap", x.way(1, -1), 1);
        Due.is("24: cheap", x.way(1, 0), 2);
        Due.is("24: cheap", x.way(1, 1), 1);
        Due.is("24: cheap", x.way(1, 2), 2);
        Due.text(x, "cost 999*m");
        Due.is("24: dear again", x.way(1, -1), 999 + 999 + 9999);
        x.back();
        Due.is("24: two steps", x.way(1, -1), 3);
        Due.is("24: two steps", x.way(1, 0), 1);
        Due.is("24: two steps", x.way(1, 1), 2);
    }

    private static void must() {
        WhoSigns x = Due.office(3, 2);
        Due.is("25: in some", x.must(0), 1);
        x.step(-1, 2, 1);
        Due.is("25: in each", x.must(2), 2);
        x.rule(1, 2, 0);
        x.rule(2, 1, 0);
        Due.is("25: in some", x.must(0), 1);
        x.away(1, 0, 0);
        Due.is("25: in each", x.must(0), 2);
        Due.is("25: in none", x.must(1), 0);
        Due.is("25: person 3", x.must(3), BAD);
        Due.is("25: person -1", x.must(-1), BAD);
        x.away(2, 0, 0);
        Due.is("25: no way", x.must(0), 0);
        WhoSigns y = Due.office(2, 0);
        Due.is("25: without steps", y.must(0), 0);
        y.step(-1, 0, 1);
        y.sign(0, 1);
        Due.is("25: signed", y.must(1), 2);
        Due.is("25: signed by another one", y.must(0), 0);
        y.step(-1, 0, 1);
        y.rule(1, 1, 0);
        y.person(0, 0, 0);
        Due.is("25: one of two", y.must(0), 1);
    }

    private static void sly() {
        WhoSigns x = Due.office(3, 4);
        Due.is("26: all", x.sly(1), 4);
        x.rule(1, 1, 0);
        Due.is("26: apart", x.sly(1), 3);
        x.rule(5, 3, 3);
        Due.is("26: many", x.sly(1), 2);
        x.sign(3, 0);
        Due.is("26: a signed one, too", x.sly(0), 2);
        x.away(0, 0, 0);
        Due.is("26: but that one none", x.sly(0), 1);
        Due.is("26: person 3", x.sly(3), BAD);
        x.away(1, 0, 0);
        Due.is("26: no way", x.sly(2), NONE);
        Due.is("26: bad ahead of none", x.sly(-1), BAD);
        Due.is("26: without steps", Due.office(1, 0).sly(0), 0);
    }

    private static void missing() {
        WhoSigns x = Due.office(3, 2);
        Due.is("27: all", x.missing(), 7);
        x.rule(1, 1, 0);
        Due.is("27: two, the least as bits", x.missing(), 3);
        x.step(-1, 2, 1);
        Due.is("27: the one who is over them", x.missing(), 4);
        x.sign(2, 2);
        Due.is("27: but signed", x.missing(), 3);
        x.sign(0, 0);
        Due.is("27: two who may", x.missing(), 6);
        x.sign(1, 1);
        Due.is("27: all is signed", x.missing(), NONE);
        x.rule(2, 1, 0);
        Due.is("27: no way as it is", x.missing(), NO);
        Due.is("27: without steps", Due.office(3, 0).missing(), NONE);
        Due.is("27: without people", Due.office(0, 1).missing(), NO);
        Due.is("27: without all", Due.office(0, 0).missing(), NONE);
        standingForOneWhoIsMissing();
    }

    private static void standingForOneWhoIsMissing() {
        WhoSigns x = new WhoSigns();
        x.person(0, 0, 0);
        x.person(0, 0, 0);
        x.step(0, 0, 1);
        x.paper(0, 0, true);
        x.stand(1, 0, 99);
        Due.is("27: the missing are not away", x.missing(), 1);
    }

    private static void bears() {
        WhoSigns x = Due.office(3, 2);
        x.rule(1, 1, 0);
        Due.is("28: 0", x.bears(0), 1);
        Due.is("28: 1", x.bears(1), 1);
        Due.is("28: 2", x.bears(2), 0);
        Due.is("28: 3", x.bears(3), 0);
        Due.is("28: more than people", x.bears(4), BAD);
        Due.is("28: -1", x.bears(-1), BAD);
        x.sign(0, 0);
        x.sign(1, 2);
        Due.is("28: all is signed", x.bears(3), 1);
        x.turns(0, 2);
        Due.is("28: no way", x.bears(0), 0);
        WhoSigns y = Due.office(7, 1);
        Due.is("28: 6 of 7", y.bears(6), 1);
        Due.is("28: 7 of 7", y.bears(7), 0);
        Due.is("28: 8", y.bears(8), BAD);
        Due.is("28: 0 of none", Due.office(0, 0).bears(0), 1);
        Due.is("28: 1 of none", Due.office(0, 0).bears(1), BAD);
    }

    private static void offers() {
        WhoSigns x = Due.office(2, 0);
        Due.is("29: person 2", x.offer(2, 0), BAD);
        Due.is("29: person -1", x.offer(-1, 0), BAD);
        Due.is("29: paper 8", x.offer(0, 8), BAD);
        Due.is("29: paper -1", x.offer(0, -1), BAD);
        for (int k = 0; k < 6; k++) {
            Due.is("29: offer", x.offer(0, 7), k);
        }
        Due.is("29: full", x.offer(0, 0), FULL);
        Due.is("29: bad ahead of full", x.offer(0, 8), BAD);
        Due.is("29: six", x.count(5), 6);
        Due.is("30: six", x.clear(), 6);
        Due.is("30: none", x.clear(), 0);
        Due.is("30: none", x.count(5), 0);
        Due.is("29: from 0 again", x.offer(1, 0), 0);
    }

    private static void teach() {
        WhoSigns x = new WhoSigns();
        x.step(0, 0, 1);
        x.step(1, 0, 1);
        Due.is("31: without people", x.teach(), 0);
        x.person(0, 0, 0);
        x.person(0, 0, 0);
        x.person(0, 0, 0);
        Due.is("31: no offers", x.teach(), NONE);
        x.paper(0, 0, true);
        x.paper(1, 1, true);
        x.offer(0, 1);
        Due.is("31: too few", x.teach(), NONE);
        WhoSigns y = Due.office(1, 0);
        Due.is("31: of one, without steps", y.teach(), 0);
        y.step(-1, 0, 1);
        Due.is("31: of one", y.teach(), NONE);
        y.step(0, 0, 1);
        y.person(0, 0, 0);
        y.offer(0, 0);
        y.offer(1, 0);
        Due.is("31: all of them", y.teach(), 3);
        x.offer(2, 1);
        x.offer(1, 0);
        x.offer(2, 0);
        Due.is("31: two of them, the least as bits", x.teach(), 5);
        x.rule(1, 1, 0);
        Due.is("31: apart", x.teach(), 6);
        Due.is("31: papers stay as they were", x.personTold(2, 3), 0);
        x.paper(2, 0, true);
        x.paper(2, 1, true);
        Due.is("31: none needed", x.teach(), 0);
        Due.is("31: offers stay", x.count(5), 4);
    }

    private static void teachOneWhoIsAway() {
        WhoSigns x = Due.office(3, 0);
        x.step(4, 0, 1);
        x.away(2, 0, 0);
        x.stand(0, 2, 0);
        x.stand(1, 2, 0);
        x.offer(0, 4);
        x.offer(1, 4);
        x.offer(2, 4);
        Due.is("31: as their own, so that others stand for them", x.teach(), 4);
    }

    private static void soon() {
        WhoSigns x = Due.office(1, 1);
        Due.is("32: today", x.soon(), 0);
        x.away(0, 0, 58);
        Due.is("32: the 60th", x.soon(), 59);
        x.away(0, 0, 59);
        Due.is("32: the 61st", x.soon(), NONE);
        x.days(1);
        Due.is("32: from this one on", x.soon(), 60);
        for (int k = 0; k < 10; k++) {
            x.days(99);
        }
        x.away(0, 0, 998);
        Due.is("32: the last day", x.soon(), 999);
        x.away(0, 0, 999);
        Due.is("32: no day behind 999", x.soon(), NONE);
        Due.is("32: without steps", Due.office(0, 0).soon(), 0);
        Due.is("32: without people", Due.office(0, 1).soon(), NONE);
    }
}
