/** Promises 18 to 22 at their edges: above each test stands what the document says there. */
public final class EdgesTextsTest {
    private static final int BAD = WhoSigns.BAD, FULL = WhoSigns.FULL, NONE = WhoSigns.NONE;
    private static final int MIN = Twin.MIN, MAX = Twin.MAX;
    private static final Twin BARE = Twin.bare(), FEW = Twin.few(), FULL_ONE = Twin.full();
    private static final String[] KEYS = {"may", "cost", "wait"};

    public static void main(String[] args) {
        twelveBytesCome();
        highestFirst();
        tapeIsFull();
        firstBytesAreKept();
        trimRefused();
        fourteenTexts();
        tapeIsUsedUp();
        faultAheadOfFull();
        placesOfFaults();
        keysThatAre();
        namesOfKeys();
        numbersOfDigits();
        everyByte();
        everyByteAhead();
        blanksAnywhere();
        blanksThatAreNeeded();
        endTooSoon();
        oneTestAlone();
        signsThatStandWrong();
        ninthParenthesis();
        ninthNot();
        eachByItself();
        fullTapes();
        loosestFirst();
        intsWrap();
        dividing();
        onesAndZeros();
        toldOfTexts();
        textsThatAreNot();
        toldLast();
        whyRefused();
        Due.end("EdgesTextsTest");
    }

    private static int[] outside(int least, int most) {
        return new int[] {least - 1, most + 1, MIN, MAX};
    }

    private static void fine(String text) {
        WhoSigns x = new WhoSigns();
        Due.is("20: \"" + text + "\"", Due.text(x, text), 0);
        Due.is("20: used up", x.count(9), 0);
        Due.is("20: one text", x.count(4), 1);
    }

    private static void fault(String text, int place) {
        WhoSigns x = new WhoSigns();
        Due.is("20: fault of \"" + text + "\"", Due.text(x, text), -100 - place);
        Due.is("20: used up", x.count(9), 0);
        Due.is("20: no text", x.count(4), 0);
    }

    /** What a text gives for one of office 3 and rank 7 on day 9. */
    private static void gives(String text, int due) {
        WhoSigns x = new WhoSigns();
        x.person(3, 7, 0);
        x.days(9);
        Due.is("20: \"" + text + "\"", Due.text(x, "wait " + text), 0);
        Due.is("20: \"" + text + "\" gives", x.personTold(0, 7), due);
    }

    /** 18: Twelve bytes come to THE TAPE: how many it has. */
    private static void twelveBytesCome() {
        WhoSigns x = new WhoSigns();
        for (int k = 1; k <= 8; k++) {
            Due.is("18: it has", x.feed(MIN, MAX, -1), 12 * k);
            Due.is("53: it has", x.count(9), 12 * k);
        }
    }

    /** 18: the highest of each number first. */
    private static void highestFirst() {
        // one byte of 255 at each place in turn
        byte[] bytes = {'m', 'a', 'y', ' ', '(', '(', '(', '(', '1', ')', ')', ')'};
        for (int at = 3; at < 12; at++) {
            byte[] spoilt = bytes.clone();
            spoilt[at] = (byte) 255;
            WhoSigns x = new WhoSigns();
            x.feed(Due.number(spoilt, 0), Due.number(spoilt, 4), Due.number(spoilt, 8));
            Due.is("18: byte " + at, x.text(), -100 - at);
        }
        WhoSigns y = new WhoSigns();
        y.feed(0x77616974, 0x20393837, 0x362d3132);
        y.feed(0x33342a32, 0x20202020, 0x20202020);
        Due.is("18: wait 9876-1234*2", y.text(), 0);
        y.person(0, 0, 0);
        Due.is("18: wait 9876-1234*2", y.personTold(0, 7), 7408);
    }

    /** 18: FULL: it would have more than 96. */
    private static void tapeIsFull() {
        FULL_ONE.refuses("18: 108 would be", FULL, o -> o.feed(0, 0, 0));
        for (int has = 84; has <= 96; has++) {
            WhoSigns x = FULL_ONE.make();
            x.trim(has);
            Due.is("18: " + has + " and 12", x.feed(0, 0, 0), has == 84 ? 96 : FULL);
            Due.is("18: it has", x.count(9), has == 84 ? 96 : has);
        }
    }

    /** 19: THE TAPE keeps its first n bytes: n. */
    private static void firstBytesAreKept() {
        WhoSigns x = new WhoSigns();
        Due.is("19: none of none", x.trim(0), 0);
        Due.feed(x, "wait 1234567");
        Due.is("19: all", x.trim(12), 12);
        Due.is("19: the first six", x.trim(6), 6);
        Due.is("19: they do not come back", x.trim(7), BAD);
        Due.feed(x, "+20");
        Due.is("19: wait 1+20", x.text(), 0);
        x.person(0, 0, 0);
        Due.is("19: wait 1+20", x.personTold(0, 7), 21);
        Due.feed(x, "may 1");
        Due.is("19: none", x.trim(0), 0);
        Due.is("19: none", x.text(), -100);
    }

    /** 19: BAD. */
    private static void trimRefused() {
        for (int v : outside(0, 10)) {
            FEW.refuses("19: " + v + " of 10", BAD, o -> o.trim(v));
        }
        for (int v : outside(0, 96)) {
            FULL_ONE.refuses("19: " + v + " of 96", BAD, o -> o.trim(v));
        }
        for (int v : outside(0, 0)) {
            BARE.refuses("19: " + v + " of none", BAD, o -> o.trim(v));
        }
    }

    /** 20: TEXTS, 14 at most, numbered from 0. FULL. */
    private static void fourteenTexts() {
        WhoSigns x = new WhoSigns();
        for (int t = 0; t < 14; t++) {
            Due.is("20: numbered from 0", Due.text(x, KEYS[t % 3] + " " + t), t);
            Due.is("53: so many", x.count(4), t + 1);
        }
        for (String key : KEYS) {
            Due.is("20: the fifteenth", Due.text(x, key + " 1"), FULL);
        }
        Due.is("53: fourteen", x.count(4), 14);
        int[] latest = {12, 13, 11};
        for (int key = 0; key < 3; key++) {
            Due.is("22: the latest of them", x.why(key), latest[key]);
        }
    }

    /** 20: an act that reads it uses it up, whatever it answers. */
    private static void tapeIsUsedUp() {
        FULL_ONE.refusesBut("20: FULL", FULL, WhoSigns::text, o -> o.trim(0));
        Twin faulty = new Twin("faulty", () -> {
            WhoSigns x = FEW.make();
            Due.feed(x, "#");
            return x;
        });
        faulty.refusesBut("20: a FAULT", -110, WhoSigns::text, o -> o.trim(0));
        WhoSigns x = FEW.make();
        Due.is("20: a TEXT", x.text(), 3);
        Due.is("20: used up", x.count(9), 0);
        Due.is("20: there is nothing to read", x.text(), -100);
    }

    /** 20: -100 less the place of its FAULT; FULL. */
    private static void faultAheadOfFull() {
        WhoSigns x = FULL_ONE.make();
        x.trim(0);
        Due.is("20: a fault of the end", Due.text(x, "cost"), -104);
        Due.is("20: a fault at 0", Due.text(x, "#"), -100);
        Due.is("20: nothing", x.text(), -100);
        Due.is("20: none", Due.text(x, "cost 1"), FULL);
    }

    /** 20: the first byte of the first word or sign with which no TEXT goes on. */
    private static void placesOfFaults() {
        fault("#may 1", 0);
        fault(" #may 1", 1);
        fault("may #1", 4);
        fault("may 1 # #", 6);
        fault("may 1 + # 12345", 8);
        fault("may 12345 #", 4);
        fault("may kr", 4);
        fault("may  abc", 5);
        fault("may (kr)", 5);
        fault("may 1" + " ".repeat(90) + "2", 95);
        fault(" ".repeat(95) + "k", 95);
        fault("may (" + "1+".repeat(45) + "2", 96);
    }

    /** 20: KEY: may | cost | wait. */
    private static void keysThatAre() {
        for (String key : KEYS) {
            fine(key + " 1");
            fault(key, key.length());
            fault(key + " ", key.length() + 1);
            fault(key.substring(1) + " 1", 0);
            fault(key.substring(0, key.length() - 1) + " 1", 0);
            for (char letter = 'a'; letter <= 'z'; letter++) {
                fault(key + letter + " 1", 0);
                fault(letter + key + " 1", 0);
            }
            fault(key.toUpperCase() + " 1", 0);
            fault(key + " " + key, key.length() + 1);
            fault(key + key + " 1", 0);
        }
        fault("told 1", 0);
        fault("1", 0);
        fault("(may 1)", 0);
        fault("!may 1", 0);
    }

    /** 20: NAMES, each one letter: of may k, r, o, d; of cost r, o, m; of wait r, o, d. */
    private static void namesOfKeys() {
        String[] names = {"krod", "rom", "rod"};
        for (int key = 0; key < 3; key++) {
            for (char letter = 'a'; letter <= 'z'; letter++) {
                String text = KEYS[key] + " " + letter;
                if (names[key].indexOf(letter) >= 0) {
                    fine(text);
                } else {
                    fault(text, text.length() - 1);
                }
                fault(text + letter, text.length() - 1);
                fault(KEYS[key] + " " + (char) (letter - 32), text.length() - 1);
            }
        }
    }

    /** 20: NUMBER (1 to 4 digits). */
    private static void numbersOfDigits() {
        gives("0", 0);
        gives("9", 9);
        gives("10", 10);
        gives("999", 999);
        gives("9999", 9999);
        gives("0000", 0);
        gives("0010", 10);
        fault("may 10000", 4);
        fault("may 00000", 4);
        fault("may 99999", 4);
        fault("may 1+00001+1", 6);
        fault("may (12345", 5);
        fault("may !123456789", 5);
        fault("may " + "1".repeat(92), 4);
    }

    /** 20: A word is a row of letters a .. z, or of digits; any other byte is a sign by itself. */
    private static void everyByte() {
        for (int b = 0; b < 256; b++) {
            String text = "may 1" + (char) b;
            if (b == ' ' || '0' <= b && b <= '9') {
                fine(text);
            } else if ("|&<=>+-*/".indexOf(b) >= 0) {
                fault(text, 6);
                fine(text + "1");
            } else {
                fault(text, 5);
                fault(text + "1", 5);
            }
        }
    }

    /** 20: the same, where a PIECE is due. */
    private static void everyByteAhead() {
        for (int b = 0; b < 256; b++) {
            String text = "cost 1+" + (char) b;
            if ("rom".indexOf(b) >= 0 || '0' <= b && b <= '9') {
                fine(text);
            } else if (b == ' ' || b == '!' || b == '(') {
                fault(text, 8);
            } else {
                fault(text, 7);
            }
        }
    }

    /** 20: Between words and signs, and at the ends, there may be blanks (byte 32). */
    private static void blanksAnywhere() {
        String[] parts = {"may", "!", "(", "k", "<", "12", ")", "&", "(", "3", ")", "|", "4", "*", "r", "-", "o", "/", "d"};
        for (int many = 0; many <= 3; many++) {
            fine(" ".repeat(many) + String.join(" ".repeat(many), parts) + " ".repeat(many));
        }
        for (int at = 0; at <= parts.length; at++) {
            StringBuilder text = new StringBuilder();
            for (int k = 0; k < parts.length; k++) {
                text.append(k == at ? "   " : "").append(parts[k]);
            }
            fine(text + (at == parts.length ? "   " : ""));
        }
        for (int other : new int[] {0, 9, 10, 11, 12, 13, 31, 35, 127, 128, 160, 255}) {
            fault("may 1 " + (char) other, 6);
            fault((char) other + "may 1", 0);
            fault("may" + (char) other + "1", 3);
        }
    }

    /** 20: a word right behind another one needs one. */
    private static void blanksThatAreNeeded() {
        fault("may1", 3);
        fault("may0001", 3);
        fault("may12345", 3);
        fault("cost1", 4);
        fault("wait9+r", 4);
        fault("may 1k", 5);
        fault("may k1", 5);
        fault("may 1+2r", 7);
        fault("may (1)k", 7);
        fine("may(1)");
        fine("cost!1");
        fine("wait(r)*1");
    }

    /** 20: the end (the place behind the last byte), if it comes too soon. */
    private static void endTooSoon() {
        String text = "may (1<!k)&((2)+3*4)";
        int[] fineAt = {10, 20};
        for (int n = 3; n <= text.length(); n++) {
            boolean isFine = n == fineAt[0] || n == fineAt[1];
            for (int blanks = 0; blanks < 3; blanks++) {
                String part = text.substring(0, n) + " ".repeat(blanks);
                if (isFine) {
                    fine(part);
                } else {
                    fault(part, part.length());
                }
            }
        }
        for (int blanks = 0; blanks <= 96; blanks++) {
            fault(" ".repeat(blanks), blanks);
        }
    }

    /** 20: TEST: SUM [ (< | = | >) SUM ]. */
    private static void oneTestAlone() {
        for (String one : new String[] {"<", "=", ">"}) {
            for (String other : new String[] {"<", "=", ">"}) {
                fault("may 1" + one + "2" + other + "3", 7);
                fault("may 1" + one + other + "3", 6);
                fault("may (1" + one + "2" + other + "3)", 8);
                fine("may (1" + one + "2)" + other + "3");
                fine("may 1" + one + "2&3" + other + "4");
                fine("may 1" + one + "2|3" + other + "4");
                fault("may 1" + one + "2+3" + other + "4", 9);
            }
        }
    }

    /** 20: signs where a PIECE is due, and pieces where a sign is due. */
    private static void signsThatStandWrong() {
        for (String sign : new String[] {"|", "&", "<", "=", ">", "+", "-", "*", "/", ")"}) {
            fault("may " + sign + "1", 4);
            fault("may (" + sign + "1)", 5);
            fault("may !" + sign + "1", 5);
            fault("may 1+" + sign + "1", 6);
        }
        for (String piece : new String[] {"(2)", "!2", " 2", " k"}) {
            int blank = piece.startsWith(" ") ? 1 : 0;
            fault("may 1" + piece, 5 + blank);
            fault("may (1)" + piece, 7 + blank);
            fault("may k" + piece, 5 + blank);
        }
        fault("may 1)", 5);
        fault("may (1))", 7);
        fault("may ()", 5);
    }

    private static String nested(int many) {
        return "(".repeat(many) + "1" + ")".repeat(many);
    }

    /** 20: the ninth ( that would be open within others. */
    private static void ninthParenthesis() {
        fine("may " + nested(7));
        fine("may " + nested(8));
        fault("may " + nested(9), 12);
        fault("may " + nested(20), 12);
        fault("may " + "(".repeat(9), 12);
        fault("may " + "(".repeat(8), 12);
        fine("may " + nested(8) + "+" + nested(8));
        fault("may " + nested(8) + "+" + nested(9), 30);
        fine("may ((((((((1)+(2))))))))+(3)");
        fault("may ((((((((1)+((2)))))))))", 16);
        fine("may (1)+(1)+(1)+(1)+(1)+(1)+(1)+(1)+(1)+(1)");
    }

    /** 20: the ninth ! likewise. */
    private static void ninthNot() {
        fine("may " + "!".repeat(8) + "1");
        fault("may " + "!".repeat(9) + "1", 12);
        fault("may " + "! ".repeat(9) + "1", 20);
        fault("may " + "!".repeat(8), 12);
        fault("may " + "!".repeat(9), 12);
        fine("may " + "!".repeat(8) + "1&" + "!".repeat(8) + "k");
        fault("may " + "!".repeat(8) + "1&" + "!".repeat(9) + "k", 22);
        fine("may !1+!1+!1+!1+!1+!1+!1+!1+!1+!1");
        fine("may !(!(!(!(!(!(!(!1+!2)))))))");
        fault("may !(!(!(!(!(!(!(!(!1))))))))", 20);
        fault("may !!!!(!!!!(!1))", 14);
        fine("may !!!!(!!!!1)+!!!!(!!!!1)");
        gives("!!!!!!!!5", 1);
        gives("!!!!!!!5", 0);
    }

    /** 20: each by itself. */
    private static void eachByItself() {
        fine("may " + "!".repeat(8) + nested(8));
        fine("may " + "!(".repeat(8) + "1" + ")".repeat(8));
        fine("may " + "(".repeat(8) + "!".repeat(8) + "1" + ")".repeat(8));
        fault("may " + "!(".repeat(8) + "(1", 20);
        fault("may " + "!(".repeat(8) + "!1", 20);
        fault("may " + "(".repeat(8) + "!".repeat(8) + "(1", 20);
    }

    /** 18 and 20: 96 bytes at most. */
    private static void fullTapes() {
        String sum = "may " + "1+".repeat(45) + "23";
        Due.is("it is full", sum.length(), 96);
        fine(sum);
        fault(sum.substring(0, 95) + "+", 96);
        fault(sum.substring(0, 95) + "#", 95);
        fault(sum.substring(0, 94) + "k2", 95);
        WhoSigns x = new WhoSigns();
        x.person(0, 0, 0);
        Due.text(x, "wait" + " ".repeat(88) + "1234");
        Due.is("20: the last four bytes", x.personTold(0, 7), 1234);
        Due.text(x, "wait 9" + "-1".repeat(45));
        Due.is("20: forty-six numbers", x.personTold(0, 7), 9 - 45);
        Due.is("21: forty-six numbers", x.textTold(1, 1), 46);
        Due.text(x, "wait " + "!0+".repeat(30) + "7");
        Due.is("20: thirty and seven", x.personTold(0, 7), 37);
        for (int levels = 0; levels <= 7; levels++) {
            Due.text(x, "wait " + "0|1&1=1+1*(".repeat(levels) + "0" + ")".repeat(levels));
            Due.is("20: deep through all signs, " + levels, x.personTold(0, 7), levels % 2);
        }
        Due.text(x, "wait 1+2*(3+4*(5+6*(7+8*(9+1*(2+3*(4+5*(6+7*8)))))))");
        Due.is("20: deep to the right", x.personTold(0, 7), 1 + 2 * (3 + 4 * (5 + 6 * (7 + 8 * (9 + 1 * (2 + 3 * (4 + 5 * (6 + 7 * 8))))))));
    }

    /** 20: E, the loosest first. */
    private static void loosestFirst() {
        gives("1|0&0", 1);
        gives("(1|0)&0", 0);
        gives("0&1=0", 0);
        gives("0=0&1", 1);
        gives("2=1+1", 1);
        gives("2+3*4-5", 9);
        gives("20-5-4", 11);
        gives("2-3+4", 3);
        gives("100/5/4", 5);
        gives("7/2*2", 6);
        gives("7*2/4", 3);
        gives("!1+1", 1);
        gives("!0*3", 3);
        gives("1<2+0", 1);
        gives("5>4|0", 1);
        gives("r*100+o*10+d", 739);
    }

    /** 20: Ints wrap. */
    private static void intsWrap() {
        gives("8192*4*8192*8", MIN);
        gives("8192*4*8192*8-1", MAX);
        gives("8192*4*8192*8-1+1", MIN);
        gives("0-8192*4*8192*8", MIN);
        gives("8192*8*8192*8", 0);
        gives("9999*9999*9999", 9999 * 9999 * 9999);
        gives("9999*9999*9999*9999*9999", 9999 * 9999 * 9999 * 9999 * 9999);
        gives("8192*4*8192*8*(0-1)", MIN);
        gives("8192*4*8192*8<0", 1);
        gives("8192*4*8192*8-1>0", 1);
        gives("8192*4*8192*8<8192*4*8192*8-1", 1);
    }

    /** 20: / is 0 by 0; it cuts towards 0. */
    private static void dividing() {
        gives("5/0", 0);
        gives("0/0", 0);
        gives("(0-5)/0", 0);
        gives("5/(r-7)", 0);
        gives("5/0+3", 3);
        gives("7/2", 3);
        gives("(0-7)/2", -3);
        gives("7/(0-2)", -3);
        gives("(0-7)/(0-2)", 3);
        gives("1/2", 0);
        gives("(0-1)/2", 0);
        gives("8192*4*8192*8/(0-1)", MIN);
        gives("8192*4*8192*8/2", MIN / 2);
    }

    /** 20: tests, & | ! give 1 or 0 (what is not 0 is true). */
    private static void onesAndZeros() {
        gives("5&7", 1);
        gives("5&0", 0);
        gives("0&7", 0);
        gives("0&0", 0);
        gives("5|7", 1);
        gives("5|0", 1);
        gives("0|7", 1);
        gives("0|0", 0);
        gives("(0-1)&(0-2)", 1);
        gives("(0-1)|0", 1);
        gives("!(0-1)", 0);
        gives("!7", 0);
        gives("!0", 1);
        gives("4<5", 1);
        gives("5<5", 0);
        gives("6<5", 0);
        gives("4>5", 0);
        gives("5>5", 0);
        gives("6>5", 1);
        gives("4=5", 0);
        gives("5=5", 1);
        gives("(0-1)<0", 1);
        gives("(4<5)*9", 9);
        gives("0&1/0|1", 1);
    }

    /** 21: what 0 KEY, 1 how many NUMBERS and NAMES it has. BAD. */
    private static void toldOfTexts() {
        for (int v : outside(0, 1)) {
            FEW.refuses("21: what " + v, BAD, o -> o.textTold(0, v));
        }
        WhoSigns x = new WhoSigns();
        Due.text(x, "may 1");
        Due.text(x, "cost !!(((m)))");
        Due.text(x, "wait r+r+r+0000-9999&d");
        int[] pieces = {1, 1, 6};
        for (int t = 0; t < 3; t++) {
            Due.is("21: key of " + t, x.textTold(t, 0), t);
            Due.is("21: pieces of " + t, x.textTold(t, 1), pieces[t]);
        }
    }

    /** 21: BAD, of TEXTS that there are not. */
    private static void textsThatAreNot() {
        for (int v : outside(0, 2)) {
            FEW.refuses("21: text " + v, BAD, o -> o.textTold(v, 0));
        }
        for (int v : outside(0, 13)) {
            FULL_ONE.refuses("21: text " + v, BAD, o -> o.textTold(v, 1));
        }
        BARE.refuses("21: there are none", BAD, o -> o.textTold(0, 0));
    }

    /** 22: Of a KEY that TEXT counts that was told last. NONE. */
    private static void toldLast() {
        WhoSigns x = new WhoSigns();
        x.person(0, 0, 0);
        for (int key = 0; key < 3; key++) {
            Due.is("22: none at first", x.why(key), NONE);
        }
        Due.text(x, "wait 5");
        Due.is("22: text 0", x.why(2), 0);
        Due.text(x, "wait 6");
        Due.is("22: text 1", x.why(2), 1);
        Due.is("22: it counts", x.personTold(0, 7), 6);
        Due.text(x, "wait 7+");
        Due.is("22: no text, it does not count", x.why(2), 1);
        Due.is("22: it counts still", x.personTold(0, 7), 6);
        Due.text(x, "may 0");
        Due.is("22: of its key", x.why(2), 1);
        Due.is("22: of its key", x.why(0), 2);
        Due.is("22: of its key", x.why(1), NONE);
    }

    /** 22: BAD. */
    private static void whyRefused() {
        for (int v : outside(0, 2)) {
            FEW.refuses("22: key " + v, BAD, o -> o.why(v));
            BARE.refuses("22: key " + v, BAD, o -> o.why(v));
        }
    }
}
