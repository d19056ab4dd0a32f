/** Promises 41 to 48 at their edges: above each test stands what the document says there. */
public final class EdgesSheetsTest {
    private static final int BAD = WhoSigns.BAD, NO = WhoSigns.NO, NOTHING = WhoSigns.NOTHING, KIND = WhoSigns.KIND;
    private static final int INDEX = WhoSigns.INDEX, SIZE = WhoSigns.SIZE, MIN = Twin.MIN, MAX = Twin.MAX;
    private static final int BOOLEANS = 0, BYTES = 1;
    private static final Twin BARE = Twin.bare(), FEW = Twin.few(), FULL_ONE = Twin.full();

    public static void main(String[] args) {
        rowsOfPlaces();
        rowsAnew();
        rowsMissing();
        sheetRefused();
        sheetSizes();
        marksOfBooleans();
        marksOfBytes();
        markRefused();
        markBeyond();
        papersAsFar();
        papersOfOthers();
        papersRefused();
        copiesFit();
        copiesAsTheyWere();
        copiesOfNone();
        copyRefused();
        copyBeyond();
        laysThings();
        laysRowsOfTheirOwn();
        laysRulesForGood();
        layRefused();
        asksForKinds();
        askRefused();
        itemsOfPlaces();
        itemRefused();
        rests();
        restRefused();
        Due.end("EdgesSheetsTest");
    }

    private static int[] outside(int least, int most) {
        return new int[] {least - 1, most + 1, MIN, MAX};
    }

    /** 41: A SHEET becomes a row of n places of a sort, all 0: n. */
    private static void rowsOfPlaces() {
        for (int sheet = 0; sheet < 4; sheet++) {
            for (int sort : new int[] {BOOLEANS, BYTES}) {
                for (int n : new int[] {0, 1, 23, 24}) {
                    WhoSigns x = new WhoSigns();
                    Due.is("41: n", x.sheet(sheet, sort, n), n);
                    for (int place = 0; place < n; place++) {
                        Due.is("41: all 0", x.mark(sheet, place, 5), 0);
                    }
                    Due.is("41: no more places", x.mark(sheet, n, 5), INDEX);
                    Due.is("41: of its sort", n == 0 ? 0 : x.mark(sheet, 0, 0), n == 0 ? 0 : sort == BYTES ? 5 : 1);
                    Due.is("41: no other sheet", x.mark((sheet + 1) % 4, 0, 0), NOTHING);
                }
            }
        }
    }

    /** 41: becomes (what it was before is gone). */
    private static void rowsAnew() {
        WhoSigns x = new WhoSigns();
        x.sheet(0, BYTES, 24);
        for (int place = 0; place < 24; place++) {
            x.mark(0, place, place - 12);
        }
        Due.is("41: fewer", x.sheet(0, BYTES, 2), 2);
        Due.is("41: fewer", x.mark(0, 2, 1), INDEX);
        Due.is("41: more", x.sheet(0, BOOLEANS, 24), 24);
        for (int place = 0; place < 24; place++) {
            Due.is("41: all 0", x.mark(0, place, 0), 0);
        }
        x.mark(0, 3, 1);
        Due.is("41: the same again", x.sheet(0, BOOLEANS, 24), 24);
        Due.is("41: all 0", x.mark(0, 3, 0), 0);
    }

    /** 41: sort -1: MISSING, n any: (0). */
    private static void rowsMissing() {
        for (int n : new int[] {0, 1, 24, 25, -1, MIN, MAX}) {
            WhoSigns x = FULL_ONE.make();
            Due.is("41: missing, n " + n, x.sheet(1, -1, n), 0);
            Due.is("41: missing", x.mark(1, 0, 0), NOTHING);
            Due.is("41: missing", x.lay(0, 2, 1), NOTHING);
            Due.is("41: missing", x.papers(0, 1), NOTHING);
            Due.is("41: missing", x.copy(1, 0, 3, 0, 0), NOTHING);
            Due.is("41: missing again", x.sheet(1, -1, n), 0);
            Due.is("41: others are not", x.mark(0, 23, 0), 1);
        }
        BARE.refuses("41: it was missing", 0, o -> o.sheet(3, -1, 7));
    }

    /** 41: BAD: sheet, sort, n above 24. */
    private static void sheetRefused() {
        for (int v : outside(0, 3)) {
            FEW.refuses("41: sheet " + v, BAD, o -> o.sheet(v, 0, 1));
            FEW.refuses("41: sheet " + v + ", missing", BAD, o -> o.sheet(v, -1, 1));
        }
        for (int v : outside(-1, 1)) {
            FEW.refuses("41: sort " + v, BAD, o -> o.sheet(0, v, 1));
        }
        for (int v : new int[] {25, 26, 32, 256, MAX}) {
            FEW.refuses("41: n " + v, BAD, o -> o.sheet(0, 0, v));
            FULL_ONE.refuses("41: n " + v, BAD, o -> o.sheet(3, 1, v));
        }
    }

    /** 41: SIZE. (a number of places is below 0) */
    private static void sheetSizes() {
        for (int v : new int[] {-1, -2, -24, MIN}) {
            FEW.refuses("41: n " + v, SIZE, o -> o.sheet(1, 0, v));
            BARE.refuses("41: n " + v, SIZE, o -> o.sheet(1, 1, v));
            FEW.refuses("41: BAD stands ahead of SIZE, sheet", BAD, o -> o.sheet(4, 0, v));
            FEW.refuses("41: BAD stands ahead of SIZE, sort", BAD, o -> o.sheet(0, 2, v));
        }
    }

    /** 42: of booleans whether it is not 0: what it was. */
    private static void marksOfBooleans() {
        WhoSigns x = new WhoSigns();
        x.sheet(0, BOOLEANS, 1);
        int before = 0;
        for (int v : new int[] {1, 0, 2, -1, 0, 256, MIN, MAX, 0, 0}) {
            Due.is("42: what it was", x.mark(0, 0, v), before);
            before = v == 0 ? 0 : 1;
        }
    }

    /** 42: of bytes its lowest 8 bits, -128 .. 127. */
    private static void marksOfBytes() {
        WhoSigns x = new WhoSigns();
        x.sheet(0, BYTES, 24);
        int before = 0;
        int[] marks = {1, 127, 128, 129, 255, 256, 257, -1, -127, -128, -129, -256, -257, MIN, MAX, MIN + 127, 0x12345680};
        int[] due = {1, 127, -128, -127, -1, 0, 1, -1, -127, -128, 127, 0, -1, 0, -1, 127, -128};
        for (int k = 0; k < marks.length; k++) {
            Due.is("42: what it was", x.mark(0, 23, marks[k]), before);
            before = due[k];
        }
        Due.is("42: the last", x.mark(0, 23, 0), before);
        Due.is("42: no other place", x.mark(0, 22, 0), 0);
    }

    /** 42: BAD: sheet; NOTHING. */
    private static void markRefused() {
        for (int v : outside(0, 3)) {
            FEW.refuses("42: sheet " + v, BAD, o -> o.mark(v, 0, 1));
            BARE.refuses("42: BAD stands ahead of NOTHING", BAD, o -> o.mark(v, -1, 1));
        }
        for (int place : new int[] {0, -1, 24, MIN, MAX}) {
            FEW.refuses("42: NOTHING stands ahead of INDEX", NOTHING, o -> o.mark(3, place, 1));
        }
    }

    /** 42: INDEX: there is no such place. */
    private static void markBeyond() {
        for (int place : outside(0, 4)) {
            FEW.refuses("42: place " + place + " of 5", INDEX, o -> o.mark(0, place, 1));
        }
        for (int place : outside(0, 23)) {
            FEW.refuses("42: place " + place + " of 24", INDEX, o -> o.mark(1, place, 1));
        }
        for (int place : new int[] {0, 1, -1, MIN, MAX}) {
            FEW.refuses("42: place " + place + " of none", INDEX, o -> o.mark(2, place, 1));
        }
    }

    /** 43: PAPERS 0, 1, .. become as places of a SHEET from 0 on are (not 0: they have it): how many changed. */
    private static void papersAsFar() {
        for (int n = 0; n <= 24; n++) {
            for (int sort : new int[] {BOOLEANS, BYTES}) {
                WhoSigns x = Due.office(1, 0);
                x.sheet(2, sort, n);
                for (int place = 0; place < n; place++) {
                    x.mark(2, place, -128);
                }
                int many = Math.min(8, n);
                Due.is("43: as far as it has some, " + n, x.papers(0, 2), many);
                Due.is("43: they have them", x.personTold(0, 3), (1 << many) - 1);
                Due.is("43: none changes", x.papers(0, 2), 0);
                x.sheet(2, sort, n);
                Due.is("43: all go", x.papers(0, 2), many);
                Due.is("43: they have none", x.personTold(0, 3), 0);
            }
        }
    }

    /** 43: of others none changes. */
    private static void papersOfOthers() {
        WhoSigns x = Due.office(2, 0);
        for (int paper = 0; paper < 8; paper++) {
            x.paper(0, paper, true);
        }
        x.sheet(0, BYTES, 3);
        x.mark(0, 1, 256);
        x.mark(0, 2, 1);
        Due.is("43: 0 and 1 go", x.papers(0, 0), 2);
        Due.is("43: the others stay", x.personTold(0, 3), 252);
        Due.is("43: of other people, too", x.personTold(1, 3), 0);
        x.sheet(0, BYTES, 0);
        Due.is("43: no places", x.papers(0, 0), 0);
        Due.is("43: all stay", x.personTold(0, 3), 252);
    }

    /** 43: BAD; NOTHING. */
    private static void papersRefused() {
        for (int v : outside(0, 2)) {
            FEW.refuses("43: person " + v, BAD, o -> o.papers(v, 0));
            FEW.refuses("43: BAD stands ahead of NOTHING", BAD, o -> o.papers(v, 3));
        }
        for (int v : outside(0, 3)) {
            FEW.refuses("43: sheet " + v, BAD, o -> o.papers(0, v));
        }
        FEW.refuses("43: missing", NOTHING, o -> o.papers(0, 3));
    }

    private static WhoSigns rows() {
        WhoSigns x = new WhoSigns();
        x.sheet(0, BYTES, 5);
        x.sheet(1, BYTES, 3);
        x.sheet(2, BOOLEANS, 5);
        for (int place = 0; place < 5; place++) {
            x.mark(0, place, place + 1);
            x.mark(2, place, place % 2);
        }
        return x;
    }

    private static void rowIs(String what, WhoSigns x, int sheet, int... due) {
        for (int place = 0; place < due.length; place++) {
            Due.is("44: " + what + ", place " + place, x.mark(sheet, place, 0), due[place]);
        }
        Due.is("44: " + what + ", no more", x.mark(sheet, due.length, 0), INDEX);
    }

    /** 44: So many places of a SHEET come to another one: many. */
    private static void copiesFit() {
        WhoSigns x = rows();
        Due.is("44: all that fit", x.copy(0, 0, 1, 0, 3), 3);
        rowIs("from the first on", x, 1, 1, 2, 3);
        Due.is("44: the last ones", x.copy(0, 2, 1, 0, 3), 3);
        rowIs("up to the last", x, 1, 3, 4, 5);
        Due.is("44: one to the last place", x.copy(0, 4, 1, 2, 1), 1);
        rowIs("the last", x, 1, 0, 0, 5);
        Due.is("44: the other way", x.copy(1, 0, 0, 2, 3), 3);
        rowIs("the others stay", x, 0, 1, 2, 0, 0, 0);
        WhoSigns y = FULL_ONE.make();
        Due.is("44: twenty-four", y.copy(0, 0, 2, 0, 24), 24);
        Due.is("44: the last of 24", y.mark(2, 23, 0), 1);
    }

    /** 44: (or the same), as they were. */
    private static void copiesAsTheyWere() {
        WhoSigns x = rows();
        Due.is("44: upwards", x.copy(0, 0, 0, 1, 4), 4);
        rowIs("upwards", x, 0, 1, 1, 2, 3, 4);
        WhoSigns y = rows();
        Due.is("44: downwards", y.copy(0, 1, 0, 0, 4), 4);
        rowIs("downwards", y, 0, 2, 3, 4, 5, 5);
        WhoSigns z = rows();
        Due.is("44: to the same place", z.copy(0, 0, 0, 0, 5), 5);
        rowIs("to the same place", z, 0, 1, 2, 3, 4, 5);
        WhoSigns b = rows();
        Due.is("44: booleans", b.copy(2, 0, 2, 2, 3), 3);
        rowIs("booleans", b, 2, 0, 1, 0, 1, 0);
    }

    /** 44: none of them from beyond the end, too. */
    private static void copiesOfNone() {
        Twin x = new Twin("rows", EdgesSheetsTest::rows);
        x.refuses("44: none", 0, o -> o.copy(0, 0, 1, 0, 0));
        x.refuses("44: none from the end", 0, o -> o.copy(0, 5, 1, 0, 0));
        x.refuses("44: none to the end", 0, o -> o.copy(0, 0, 1, 3, 0));
        x.refuses("44: none from the end to the end", 0, o -> o.copy(0, 5, 1, 3, 0));
        x.refuses("44: none from beyond the end", INDEX, o -> o.copy(0, 6, 1, 0, 0));
        x.refuses("44: none to beyond the end", INDEX, o -> o.copy(0, 0, 1, 4, 0));
        x.refuses("44: none from far beyond the end", INDEX, o -> o.copy(0, MAX, 1, 0, 0));
        x.refuses("44: none to far beyond the end", INDEX, o -> o.copy(0, 0, 1, MAX, 0));
        FEW.refuses("44: none of a row of none", 0, o -> o.copy(2, 0, 2, 0, 0));
        FEW.refuses("44: none of a row of none, beyond the end", INDEX, o -> o.copy(2, 1, 2, 0, 0));
        FEW.refuses("44: one of a row of none", INDEX, o -> o.copy(2, 0, 1, 0, 1));
        FEW.refuses("44: one to a row of none", INDEX, o -> o.copy(1, 0, 2, 0, 1));
    }

    /** 44: BAD; NOTHING; KIND: they are not of one sort. */
    private static void copyRefused() {
        for (int v : outside(0, 3)) {
            FEW.refuses("44: from " + v, BAD, o -> o.copy(v, 0, 1, 0, 1));
            FEW.refuses("44: to " + v, BAD, o -> o.copy(1, 0, v, 0, 1));
            FEW.refuses("44: BAD stands ahead of NOTHING, from " + v, BAD, o -> o.copy(v, 0, 3, 0, 1));
            FEW.refuses("44: BAD stands ahead of NOTHING, to " + v, BAD, o -> o.copy(3, -1, v, 0, 1));
        }
        FEW.refuses("44: from missing", NOTHING, o -> o.copy(3, 0, 1, 0, 1));
        FEW.refuses("44: to missing", NOTHING, o -> o.copy(0, 0, 3, 0, 1));
        FEW.refuses("44: from missing to missing", NOTHING, o -> o.copy(3, 0, 3, 0, 0));
        FEW.refuses("44: NOTHING stands ahead of INDEX", NOTHING, o -> o.copy(3, -1, 1, 99, MIN));
        FEW.refuses("44: booleans to bytes", KIND, o -> o.copy(0, 0, 1, 0, 1));
        FEW.refuses("44: bytes to booleans", KIND, o -> o.copy(1, 0, 0, 0, 1));
        FEW.refuses("44: none of another sort", KIND, o -> o.copy(0, 0, 2, 0, 0));
        FEW.refuses("44: KIND stands ahead of INDEX", KIND, o -> o.copy(0, -1, 1, 99, MIN));
    }

    /** 44: INDEX (below 0, too). */
    private static void copyBeyond() {
        Twin x = new Twin("rows", EdgesSheetsTest::rows);
        for (int v : new int[] {-1, -5, MIN}) {
            x.refuses("44: place " + v, INDEX, o -> o.copy(0, v, 1, 0, 1));
            x.refuses("44: at " + v, INDEX, o -> o.copy(0, 0, 1, v, 1));
            x.refuses("44: many " + v, INDEX, o -> o.copy(0, 0, 1, 0, v));
            x.refuses("44: many " + v + ", within", INDEX, o -> o.copy(0, 5, 1, 3, v));
            x.refuses("44: place " + v + ", none", INDEX, o -> o.copy(0, v, 1, 0, 0));
            x.refuses("44: at " + v + ", none", INDEX, o -> o.copy(0, 0, 1, v, 0));
        }
        x.refuses("44: one too many from", INDEX, o -> o.copy(0, 3, 1, 0, 3));
        x.refuses("44: one too many to", INDEX, o -> o.copy(0, 0, 1, 1, 3));
        x.refuses("44: too many to", INDEX, o -> o.copy(0, 0, 1, 0, 4));
        x.refuses("44: too many from", INDEX, o -> o.copy(1, 0, 0, 0, 4));
        for (int v : new int[] {6, 24, MAX - 1, MAX}) {
            x.refuses("44: place " + v, INDEX, o -> o.copy(0, v, 1, 0, 1));
            x.refuses("44: at " + v, INDEX, o -> o.copy(0, 0, 1, v, 1));
            x.refuses("44: many " + v, INDEX, o -> o.copy(0, 0, 1, 0, v));
            x.refuses("44: place and many " + v, INDEX, o -> o.copy(0, v, 1, 0, v));
            x.refuses("44: at and many " + v, INDEX, o -> o.copy(0, 0, 0, v, v));
            x.refuses("44: place 1, many " + v, INDEX, o -> o.copy(0, 1, 0, 1, v));
        }
        // place and many together would wrap to a small number
        x.refuses("44: a sum that wraps", INDEX, o -> o.copy(0, MAX, 0, MAX, 2));
        x.refuses("44: a sum that wraps", INDEX, o -> o.copy(0, MIN, 0, 0, MIN));
    }

    /** 45: A SLOT holds: thing 0 nothing, 1 RULE k, 2 SHEET k, 3 the number k: what it held (0 .. 3). */
    private static void laysThings() {
        WhoSigns x = FULL_ONE.make();
        for (int slot = 0; slot < 5; slot++) {
            x.lay(slot, 0, 0);
            int[] things = {0, 1, 1, 2, 2, 3, 3, 0, 2, 1, 3, 1, 0, 3, 2, 0, 1, 0};
            int before = 0;
            for (int thing : things) {
                Due.is("45: what it held", x.lay(slot, thing, 3), before);
                before = thing;
            }
        }
        for (int k : new int[] {0, 5, -1, MIN, MAX}) {
            Due.is("45: nothing, " + k, x.lay(0, 0, k), 0);
            Due.is("45: the number " + k, x.lay(1, 3, k), k == 0 ? 0 : 3);
            Due.is("45: the number " + k, x.rest(1, MIN), k == MIN ? 0 : k);
        }
        Due.is("45: the last rule", x.lay(2, 1, 11), 0);
        Due.is("45: the last sheet", x.lay(3, 2, 3), 0);
        Due.is("45: the last slot", x.lay(4, 3, 9), 0);
    }

    /** 45: a SHEET (a row of its own, as it was then). */
    private static void laysRowsOfTheirOwn() {
        WhoSigns x = rows();
        x.lay(0, 2, 0);
        x.lay(1, 2, 0);
        x.mark(0, 4, 99);
        x.sheet(0, BYTES, 1);
        for (int place = 0; place < 5; place++) {
            Due.is("47: as it was then", x.item(0, place), place + 1);
        }
        x.lay(0, 2, 2);
        Due.is("47: another one", x.item(0, 1), 1);
        Due.is("47: each its own", x.item(1, 4), 5);
        x.sheet(2, -1, 0);
        Due.is("47: though it is missing", x.item(0, 3), 1);
        x.lay(2, 2, 1);
        x.keep();
        x.lay(2, 0, 0);
        x.back();
        Due.is("51: an image does not keep it", x.item(2, 0), NOTHING);
    }

    /** 45: a RULE (as it is then, for good). */
    private static void laysRulesForGood() {
        WhoSigns x = Due.office(0, 2);
        x.rule(3, 1, 9);
        x.keep();
        x.lay(0, 1, 0);
        x.turns(0, 5);
        Due.is("46: as it was then", x.ask(0, 3), 20);
        x.drop(0);
        Due.is("46: as it was then", x.ask(0, 1), 20);
        x.rule(2, 10, 1);
        Due.is("46: as it was then", x.ask(0, 0), 20);
        Due.is("46: as it was then", x.ask(0, 2), KIND);
        x.back();
        Due.is("46: as it was then", x.ask(0, 3), 20);
        x.lay(0, 1, 0);
        Due.is("46: laid anew", x.ask(0, 3), 20);
    }

    /** 45: BAD: slot, thing, k; NOTHING: that SHEET is MISSING. */
    private static void layRefused() {
        for (int v : outside(0, 4)) {
            for (int thing = 0; thing < 4; thing++) {
                int t = thing;
                FEW.refuses("45: slot " + v, BAD, o -> o.lay(v, t, 0));
            }
        }
        for (int v : outside(0, 3)) {
            for (int slot = 0; slot < 5; slot++) {
                int s = slot;
                FEW.refuses("45: thing " + v, BAD, o -> o.lay(s, v, 0));
            }
        }
        for (int v : outside(0, 2)) {
            FEW.refuses("45: rule " + v, BAD, o -> o.lay(0, 1, v));
        }
        for (int v : outside(0, 11)) {
            FULL_ONE.refuses("45: rule " + v, BAD, o -> o.lay(0, 1, v));
        }
        for (int v : outside(0, 3)) {
            FEW.refuses("45: sheet " + v, BAD, o -> o.lay(3, 2, v));
        }
        BARE.refuses("45: no rule", BAD, o -> o.lay(0, 1, 0));
        for (int slot = 0; slot < 5; slot++) {
            int s = slot;
            FEW.refuses("45: that sheet is missing", NOTHING, o -> o.lay(s, 2, 3));
        }
        FEW.refuses("45: BAD stands ahead of NOTHING", BAD, o -> o.lay(5, 2, 3));
    }

    /** 46: WEIGHT (by its own KIND) of the RULE in a SLOT, taken for one of a KIND (0 .. 5). */
    private static void asksForKinds() {
        int[] above = {-1, 0, 0, 1, 1, 0};
        int[] ofNine = {1, 10, 4, 20, 13, 81};
        int[] ofNone = {1, 1, 4, 2, 4, 0};
        for (int kind = 0; kind <= 5; kind++) {
            WhoSigns x = Due.office(0, 2);
            x.rule(kind, 1, 9);
            x.rule(kind, 1, 0);
            x.lay(0, 1, 0);
            x.lay(4, 1, 1);
            for (int other = 0; other <= 5; other++) {
                boolean isUnder = kind == other || above[kind] == other || above[kind] == 1 && other == 0;
                Due.is("46: " + kind + " for " + other, x.ask(0, other), isUnder ? ofNine[kind] : KIND);
                Due.is("46: " + kind + " for " + other, x.ask(4, other), isUnder ? ofNone[kind] : KIND);
            }
        }
    }

    /** 46: BAD; NOTHING; KIND: it is no RULE, or not of that KIND, nor of one under it. */
    private static void askRefused() {
        for (int v : outside(0, 4)) {
            FEW.refuses("46: slot " + v, BAD, o -> o.ask(v, 0));
        }
        for (int v : outside(0, 5)) {
            FEW.refuses("46: kind " + v, BAD, o -> o.ask(1, v));
            FEW.refuses("46: BAD stands ahead of NOTHING", BAD, o -> o.ask(0, v));
            FEW.refuses("46: BAD stands ahead of KIND", BAD, o -> o.ask(2, v));
        }
        for (int kind = 0; kind < 6; kind++) {
            int k = kind;
            FEW.refuses("46: nothing", NOTHING, o -> o.ask(0, k));
            FEW.refuses("46: a sheet", KIND, o -> o.ask(2, k));
            FEW.refuses("46: a number", KIND, o -> o.ask(3, k));
        }
        FEW.refuses("46: not of that kind", KIND, o -> o.ask(1, 1));
    }

    /** 47: A place of the SHEET in a SLOT. */
    private static void itemsOfPlaces() {
        WhoSigns x = FEW.make();
        Due.is("47: the first", x.item(2, 0), -128);
        Due.is("47: one of 0", x.item(2, 1), 0);
        Due.is("47: the last", x.item(2, 23), 127);
        x.lay(0, 2, 0);
        Due.is("47: a boolean", x.item(0, 2), 1);
        Due.is("47: a boolean", x.item(0, 4), 0);
        Due.is("47: of five", x.item(0, 5), INDEX);
        x.lay(0, 2, 2);
        Due.is("47: of none", x.item(0, 0), INDEX);
    }

    /** 47: BAD: slot; NOTHING; KIND: it is no SHEET; INDEX. */
    private static void itemRefused() {
        for (int v : outside(0, 4)) {
            FEW.refuses("47: slot " + v, BAD, o -> o.item(v, 0));
            FEW.refuses("47: BAD stands ahead of the rest", BAD, o -> o.item(v, -1));
        }
        for (int place : new int[] {0, -1, 24, MIN, MAX}) {
            FEW.refuses("47: nothing", NOTHING, o -> o.item(0, place));
            FEW.refuses("47: a rule", KIND, o -> o.item(1, place));
            FEW.refuses("47: a number", KIND, o -> o.item(3, place));
        }
        for (int place : outside(0, 23)) {
            FEW.refuses("47: place " + place, INDEX, o -> o.item(2, place));
        }
    }

    /** 48: The rest of the number in a SLOT by n. */
    private static void rests() {
        int[][] due = {{17, 5, 2}, {17, -5, 2}, {-17, 5, -2}, {-17, -5, -2}, {0, 3, 0}, {3, 1, 0}, {3, -1, 0}, {3, 4, 3},
            {4, 4, 0}, {MIN, -1, 0}, {MIN, 1, 0}, {MIN, MAX, -1}, {MAX, MIN, MAX}, {MIN, MIN, 0}, {MAX, MAX, 0}, {-1, MIN, -1}};
        for (int[] row : due) {
            WhoSigns x = new WhoSigns();
            x.lay(4, 3, row[0]);
            Due.is("48: " + row[0] + " by " + row[1], x.rest(4, row[1]), row[2]);
        }
    }

    /** 48: BAD: slot; NOTHING; KIND: it is no number; NO: n is 0. */
    private static void restRefused() {
        for (int v : outside(0, 4)) {
            FEW.refuses("48: slot " + v, BAD, o -> o.rest(v, 1));
            FEW.refuses("48: BAD stands ahead of NO", BAD, o -> o.rest(v, 0));
        }
        for (int n : new int[] {0, 1, MIN}) {
            FEW.refuses("48: nothing", NOTHING, o -> o.rest(0, n));
            FEW.refuses("48: a rule", KIND, o -> o.rest(1, n));
            FEW.refuses("48: a sheet", KIND, o -> o.rest(2, n));
        }
        FEW.refuses("48: by 0", NO, o -> o.rest(3, 0));
    }
}
