/** Promises 41 to 53: sheets, slots, rows, images. */
public final class SheetsTest {
    private static final int BAD = WhoSigns.BAD, FULL = WhoSigns.FULL, NO = WhoSigns.NO, NONE = WhoSigns.NONE;
    private static final int NOTHING = WhoSigns.NOTHING, KIND = WhoSigns.KIND, INDEX = WhoSigns.INDEX, SIZE = WhoSigns.SIZE;
    private static final int MIN = Integer.MIN_VALUE, MAX = Integer.MAX_VALUE;

    public static void main(String[] args) {
        sheet();
        mark();
        papers();
        copy();
        lay();
        ask();
        item();
        rest();
        tell();
        check();
        checkLate();
        images();
        backTakesAll();
        imageStaysAsItIs();
        fullLogComesBack();
        count();
        Due.end("SheetsTest");
    }

    private static void sheet() {
        WhoSigns x = new WhoSigns();
        Due.is("41: sheet -1", x.sheet(-1, 0, 1), BAD);
        Due.is("41: sheet 4", x.sheet(4, 0, 1), BAD);
        Due.is("41: sort 2", x.sheet(0, 2, 1), BAD);
        Due.is("41: sort -2", x.sheet(0, -2, 1), BAD);
        Due.is("41: n 25", x.sheet(0, 0, 25), BAD);
        Due.is("41: n -1", x.sheet(0, 0, -1), SIZE);
        Due.is("41: bad ahead of size", x.sheet(0, 2, -1), BAD);
        Due.is("41: bad ahead of size", x.sheet(4, 0, -1), BAD);
        Due.is("41: still missing", x.mark(0, 0, 0), NOTHING);
        Due.is("41: 24", x.sheet(3, 1, 24), 24);
        Due.is("41: 0", x.sheet(0, 0, 0), 0);
        Due.is("41: no place", x.mark(0, 0, 0), INDEX);
        x.mark(3, 23, 5);
        Due.is("41: missing, n any", x.sheet(3, -1, 99), 0);
        Due.is("41: missing", x.mark(3, 0, 0), NOTHING);
        Due.is("41: missing, n any", x.sheet(3, -1, MIN), 0);
        Due.is("41: anew", x.sheet(3, 1, 24), 24);
        Due.is("41: all 0", x.mark(3, 23, 0), 0);
    }

    private static void mark() {
        WhoSigns x = new WhoSigns();
        x.sheet(0, 0, 2);
        x.sheet(1, 1, 2);
        Due.is("42: sheet 4", x.mark(4, 0, 0), BAD);
        Due.is("42: sheet -1", x.mark(-1, 0, 0), BAD);
        Due.is("42: missing", x.mark(2, -1, 0), NOTHING);
        Due.is("42: place 2", x.mark(0, 2, 0), INDEX);
        Due.is("42: place -1", x.mark(0, -1, 0), INDEX);
        Due.is("42: boolean", x.mark(0, 1, 256), 0);
        Due.is("42: boolean", x.mark(0, 1, MIN), 1);
        Due.is("42: boolean", x.mark(0, 1, 0), 1);
        Due.is("42: boolean", x.mark(0, 1, 0), 0);
        Due.is("42: byte", x.mark(1, 1, 128), 0);
        Due.is("42: byte", x.mark(1, 1, 511), -128);
        Due.is("42: byte", x.mark(1, 1, -129), -1);
        Due.is("42: byte", x.mark(1, 1, 256), 127);
        Due.is("42: byte", x.mark(1, 1, 0), 0);
    }

    private static void papers() {
        WhoSigns x = new WhoSigns();
        x.person(0, 0, 0);
        Due.is("43: missing", x.papers(0, 0), NOTHING);
        Due.is("43: person 1", x.papers(1, 0), BAD);
        Due.is("43: sheet 4", x.papers(0, 4), BAD);
        x.paper(0, 0, true);
        x.paper(0, 5, true);
        x.sheet(0, 0, 3);
        x.mark(0, 2, 1);
        Due.is("43: two", x.papers(0, 0), 2);
        Due.is("43: others stay", x.personTold(0, 3), 36);
        Due.is("43: none", x.papers(0, 0), 0);
        x.sheet(1, 1, 24);
        x.mark(1, 7, -128);
        x.mark(1, 8, 1);
        Due.is("43: three", x.papers(0, 1), 3);
        Due.is("43: the last one", x.personTold(0, 3), 128);
        x.sheet(2, 1, 0);
        Due.is("43: no places", x.papers(0, 2), 0);
    }

    private static void copy() {
        WhoSigns x = new WhoSigns();
        x.sheet(0, 1, 5);
        x.sheet(1, 1, 3);
        x.sheet(2, 0, 5);
        for (int k = 0; k < 5; k++) {
            x.mark(0, k, k + 1);
        }
        Due.is("44: from -1", x.copy(-1, 0, 0, 0, 0), BAD);
        Due.is("44: to 4", x.copy(0, 0, 4, 0, 0), BAD);
        Due.is("44: from missing", x.copy(3, 0, 2, 0, 9), NOTHING);
        Due.is("44: to missing", x.copy(0, 0, 3, 0, -1), NOTHING);
        Due.is("44: kind", x.copy(0, 0, 2, 0, 1), KIND);
        Due.is("44: kind ahead of index", x.copy(0, 9, 2, 0, 1), KIND);
        Due.is("44: none of them", x.copy(0, 5, 1, 3, 0), 0);
        Due.is("44: none from beyond the end", x.copy(0, 6, 1, 0, 0), INDEX);
        Due.is("44: none to beyond the end", x.copy(0, 0, 1, 4, 0), INDEX);
        Due.is("44: many -1", x.copy(0, 1, 1, 1, -1), INDEX);
        Due.is("44: place -1", x.copy(0, -1, 1, 0, 0), INDEX);
        Due.is("44: at -1", x.copy(0, 0, 1, -1, 0), INDEX);
        Due.is("44: too many there", x.copy(0, 3, 1, 0, 3), INDEX);
        Due.is("44: too many here", x.copy(0, 0, 1, 0, 4), INDEX);
        Due.is("44: far too many", x.copy(0, MAX, 1, 0, MAX), INDEX);
        Due.is("44: far too many", x.copy(0, 0, 1, MAX, MAX), INDEX);
        Due.is("44: far below", x.copy(0, MIN, 1, 0, MIN), INDEX);
        Due.is("44: nothing came", x.mark(1, 0, 0), 0);
        Due.is("44: three", x.copy(0, 2, 1, 0, 3), 3);
        Due.is("44: came", x.mark(1, 0, 0), 3);
        Due.is("44: came", x.mark(1, 2, 0), 5);
        Due.is("44: within", x.copy(0, 0, 0, 1, 4), 4);
        Due.is("44: as they were", x.mark(0, 1, 1), 1);
        Due.is("44: as they were", x.mark(0, 4, 4), 4);
        Due.is("44: within", x.copy(0, 1, 0, 0, 4), 4);
        Due.is("44: as they were", x.mark(0, 3, 0), 4);
    }

    private static void lay() {
        WhoSigns x = new WhoSigns();
        x.step(-1, 0, 1);
        x.step(-1, 0, 1);
        x.rule(1, 1, 5);
        x.sheet(0, 1, 1);
        Due.is("45: slot -1", x.lay(-1, 0, 0), BAD);
        Due.is("45: slot 5", x.lay(5, 0, 0), BAD);
        Due.is("45: thing 4", x.lay(0, 4, 0), BAD);
        Due.is("45: thing -1", x.lay(0, -1, 0), BAD);
        Due.is("45: rule 1", x.lay(0, 1, 1), BAD);
        Due.is("45: rule -1", x.lay(0, 1, -1), BAD);
        Due.is("45: sheet 4", x.lay(0, 2, 4), BAD);
        Due.is("45: sheet -1", x.lay(0, 2, -1), BAD);
        Due.is("45: missing", x.lay(0, 2, 1), NOTHING);
        Due.is("45: it held nothing", x.lay(0, 1, 0), 0);
        Due.is("45: missing", x.lay(0, 2, 1), NOTHING);
        Due.is("45: it held a rule", x.lay(0, 2, 0), 1);
        Due.is("45: it held a sheet", x.lay(0, 3, MIN), 2);
        Due.is("45: it held a number", x.lay(0, 0, 99), 3);
        Due.is("45: it held nothing", x.lay(0, 0, 0), 0);
        Due.is("45: the last slot", x.lay(4, 3, 8), 0);
        Due.is("45: the last slot", x.rest(4, 5), 3);
    }

    private static void ask() {
        WhoSigns x = new WhoSigns();
        x.step(-1, 0, 1);
        x.step(-1, 0, 1);
        x.rule(3, 1, 5);
        x.sheet(0, 1, 1);
        Due.is("46: slot 5", x.ask(5, 0), BAD);
        Due.is("46: kind 6", x.ask(0, 6), BAD);
        Due.is("46: kind -1", x.ask(0, -1), BAD);
        Due.is("46: nothing", x.ask(0, 0), NOTHING);
        x.lay(0, 1, 0);
        x.lay(1, 2, 0);
        x.lay(2, 3, 0);
        Due.is("46: a sheet", x.ask(1, 0), KIND);
        Due.is("46: a number", x.ask(2, 0), KIND);
        Due.is("46: bad ahead of kind", x.ask(2, 6), BAD);
        x.turns(0, 2);
        x.drop(0);
        int[] due = {12, 12, KIND, 12, KIND, KIND};
        for (int kind = 0; kind < 6; kind++) {
            Due.is("46: as it was then, taken for " + kind, x.ask(0, kind), due[kind]);
        }
    }

    private static void item() {
        WhoSigns x = new WhoSigns();
        x.sheet(0, 1, 2);
        x.mark(0, 1, 200);
        Due.is("47: slot 5", x.item(5, 0), BAD);
        Due.is("47: slot -1", x.item(-1, 0), BAD);
        Due.is("47: nothing", x.item(0, 9), NOTHING);
        x.lay(0, 2, 0);
        x.lay(1, 3, 7);
        x.mark(0, 1, 0);
        x.sheet(0, -1, 0);
        Due.is("47: a row of its own", x.item(0, 1), -56);
        Due.is("47: 0", x.item(0, 0), 0);
        Due.is("47: place 2", x.item(0, 2), INDEX);
        Due.is("47: place -1", x.item(0, -1), INDEX);
        Due.is("47: a number", x.item(1, 9), KIND);
    }

    private static void rest() {
        WhoSigns x = new WhoSigns();
        x.sheet(0, 1, 2);
        x.lay(1, 2, 0);
        Due.is("48: slot 5", x.rest(5, 0), BAD);
        Due.is("48: nothing", x.rest(0, 0), NOTHING);
        Due.is("48: a sheet", x.rest(1, 0), KIND);
        x.lay(0, 3, 17);
        Due.is("48: 17 by 5", x.rest(0, 5), 2);
        Due.is("48: 17 by -5", x.rest(0, -5), 2);
        Due.is("48: by 0", x.rest(0, 0), NO);
        x.lay(0, 3, MIN);
        Due.is("48: the least by -1", x.rest(0, -1), 0);
        Due.is("48: the least by 10", x.rest(0, 10), -8);
    }

    private static void tell() {
        WhoSigns x = new WhoSigns();
        for (int k = 1; k <= 60; k++) {
            Due.is("49: waits", x.tell(-k), k);
        }
        Due.is("49: full", x.tell(0), FULL);
        Due.is("49: sixty", x.count(8), 60);
    }

    private static void checked(WhoSigns x, int n, int due, int... numbers) {
        for (int number : numbers) {
            x.tell(number);
        }
        Due.is("50: check(" + n + ") of " + numbers.length, x.check(n), due);
        Due.is("50: none wait", x.count(8), 0);
    }

    private static void check() {
        WhoSigns x = new WhoSigns();
        x.person(0, 0, 0);
        x.person(0, 0, 0);
        x.step(-1, 0, 1);
        x.step(-1, 0, 1);
        checked(x, 1, NO, 4);
        checked(x, 0, BAD, 4);
        checked(x, 21, BAD, 4);
        x.away(0, 3, 4);
        x.days(2);
        x.keep();
        x.away(1, 0, 99);
        x.days(5);
        checked(x, 4, 0, 4, 1, 1, 4);
        checked(x, 1, 0, 4);
        checked(x, 1, 1);
        checked(x, 1, 2, 4, 1);
        checked(x, 4, 1, 3, 1, 1, 4);
        checked(x, 4, 2, 4, 4, 1, 4);
        checked(x, 4, 4, 4, 1, 1, 1);
        checked(x, 4, 4, 4, 1, 1);
        checked(x, 4, 5, 4, 1, 1, 4, 4);
        checked(x, 2, 2, 4, 0, 1, 1);
        checked(x, 20, 0, 4, 1, 1, 4, 4, 4, 4, 4, 4, 4, 4, 4, 4, 4, 4, 4, 4, 4, 4, 4);
        checked(x, 0, BAD, 4);
        Due.is("50: the day stays", x.count(10), 7);
    }

    private static void checkLate() {
        WhoSigns x = new WhoSigns();
        for (int k = 0; k < 10; k++) {
            x.days(99);
        }
        x.days(8);
        x.keep();
        checked(x, 2, 0, 1, 1);
        checked(x, 3, NO, 1, 1, 1);
    }

    private static void images() {
        WhoSigns x = new WhoSigns();
        Due.is("52: there is none", x.back(), NO);
        x.days(3);
        Due.is("51: the day", x.keep(), 3);
        x.days(3);
        Due.is("52: the day", x.back(), 3);
        x.days(4);
        Due.is("52: again", x.back(), 3);
        x.days(5);
        Due.is("51: anew", x.keep(), 8);
        x.days(1);
        Due.is("52: anew", x.back(), 8);
    }

    /** An image with one of each; then all is changed, and comes back. */
    private static void backTakesAll() {
        WhoSigns x = filled();
        x.keep();
        x.person(4, 0, 0);
        x.paper(0, 7, true);
        x.away(0, 0, 99);
        x.stand(0, 2, 50);
        x.over();
        x.step(-1, 9, 60);
        x.turns(0, 5);
        x.rule(1, 10, 3);
        Due.text(x, "wait 5");
        Due.text(x, "cost 7");
        x.clear();
        x.offer(1, 1);
        x.offer(1, 2);
        x.days(30);
        x.seed(99);
        x.sheet(0, -1, 0);
        x.lay(0, 0, 0);
        x.tell(5);
        x.feed(1, 2, 3);
        Due.is("52: back", x.back(), 2);
        WhoSigns y = filled();
        for (int what = 0; what <= 11; what++) {
            int due = what == 8 ? 1 : what == 9 ? 12 : y.count(what);
            Due.is("52: count " + what, x.count(what), due);
        }
        for (int what = 0; what < 8; what++) {
            Due.is("52: person " + what, x.personTold(0, what), y.personTold(0, what));
            Due.is("52: step " + what, x.stepTold(0, what), y.stepTold(0, what));
            Due.is("52: rule " + what, x.told(0, what), y.told(0, what));
            Due.is("52: why " + what, x.why(what), y.why(what));
            Due.is("52: log " + what, x.log(0, what), y.log(0, what));
        }
        Due.is("52: sheets stay", x.mark(0, 0, 0), NOTHING);
        Due.is("52: slots stay", x.lay(0, 0, 0), 0);
        Due.is("52: offers", x.teach(), y.teach());
        newOnesAreBare(x);
    }

    private static void newOnesAreBare(WhoSigns x) {
        int p = x.person(1, 2, 3);
        Due.is("52: a new one has no papers", x.personTold(p, 3), 0);
        Due.is("52: nor is away", x.personTold(p, 4), 0);
        Due.is("52: nor stands", x.personTold(p, 5), NONE);
        int s = x.step(-1, 0, 1);
        Due.is("52: a new step is open", x.stepTold(s, 3), NONE);
    }

    private static WhoSigns filled() {
        WhoSigns x = new WhoSigns();
        x.person(1, 5, 2);
        x.person(2, 6, 3);
        x.person(3, 7, 0);
        x.step(3, 0, 9);
        x.step(-1, 0, 8);
        x.paper(0, 3, true);
        x.away(1, 5, 6);
        x.stand(0, 1, 6);
        x.rule(3, 1, 2);
        x.days(2);
        x.sign(0, 0);
        Due.text(x, "cost m+1");
        x.offer(2, 3);
        x.seed(12);
        x.luck(3);
        return x;
    }

    private static void imageStaysAsItIs() {
        WhoSigns x = new WhoSigns();
        x.person(0, 1, 0);
        x.person(0, 1, 0);
        x.step(0, 0, 1);
        x.step(-1, 0, 1);
        x.rule(1, 1, 0);
        x.paper(0, 0, true);
        x.keep();
        Due.text(x, "may 0");
        x.paper(0, 0, false);
        x.drop(0);
        x.back();
        Due.is("51: one way", x.ways(0), 1);
        Due.text(x, "may 1");
        x.paper(1, 0, true);
        x.turns(0, 0);
        Due.is("51: more ways", x.ways(0), 4);
        x.tell(1);
        Due.is("51: the image has one", x.check(1), 0);
        x.back();
        Due.is("51: one way", x.ways(0), 1);
        Due.is("51: no texts", x.count(4), 0);
    }

    private static void fullLogComesBack() {
        WhoSigns x = new WhoSigns();
        for (int p = 0; p < 7; p++) {
            x.person(0, 0, 0);
        }
        for (int s = 0; s < 6; s++) {
            x.step(-1, 0, 1);
        }
        for (int k = 0; k < 30; k++) {
            x.sign(k % 6, k % 7);
            x.over();
            x.days(1);
        }
        x.keep();
        for (int k = 0; k < 40; k++) {
            x.sign(0, 0);
            x.over();
        }
        x.back();
        for (int i = 0; i < 30; i++) {
            Due.is("52: day of " + i, x.log(i, 0), i);
            Due.is("52: step of " + i, x.log(i, 1), i % 6);
            Due.is("52: person of " + i, x.log(i, 2), i % 7);
        }
    }

    private static void count() {
        WhoSigns x = filled();
        x.tell(1);
        x.feed(1, 2, 3);
        x.trim(11);
        int[] due = {3, 2, 1, 1, 1, 1, 1, 0, 1, 11, 2};
        for (int what = 0; what < due.length; what++) {
            Due.is("53: count " + what, x.count(what), due[what]);
        }
        x.seed(-3);
        Due.is("53: z", x.count(11), -3);
        x.away(0, 2, 2);
        x.away(2, 0, 9);
        Due.is("53: away", x.count(7), 2);
        Due.is("53: what 12", x.count(12), BAD);
        Due.is("53: what -1", x.count(-1), BAD);
    }
}
