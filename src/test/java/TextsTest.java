/** Promises 18 to 22: texts. */
public final class TextsTest {
    private static final int BAD = WhoSigns.BAD, FULL = WhoSigns.FULL, NONE = WhoSigns.NONE;

    public static void main(String[] args) {
        feed();
        trim();
        text();
        faults();
        depths();
        worths();
        textTold();
        why();
        Due.end("TextsTest");
    }

    private static void feed() {
        WhoSigns x = new WhoSigns();
        for (int k = 1; k <= 8; k++) {
            Due.is("18: feed", x.feed(0, -1, 5), 12 * k);
        }
        Due.is("18: full", x.feed(0, 0, 0), FULL);
        Due.is("18: 96", x.count(9), 96);
        Due.is("18: trim", x.trim(85), 85);
        Due.is("18: 97 would be", x.feed(0, 0, 0), FULL);
        Due.is("18: trim", x.trim(84), 84);
        Due.is("18: 96 would be", x.feed(0, 0, 0), 96);
        x.trim(0);
        // "may " "1+1 " "    "
        x.feed(0x6d617920, 0x312b3120, 0x20202020);
        Due.is("18: the highest first", x.text(), 0);
    }

    private static void trim() {
        WhoSigns x = new WhoSigns();
        Due.is("19: 0", x.trim(0), 0);
        Due.is("19: 1 of none", x.trim(1), BAD);
        x.feed(1, 2, 3);
        Due.is("19: -1", x.trim(-1), BAD);
        Due.is("19: 13", x.trim(13), BAD);
        Due.is("19: 12", x.trim(12), 12);
        Due.is("19: 5", x.trim(5), 5);
        Due.is("19: 6 now", x.trim(6), BAD);
        Due.is("19: count", x.count(9), 5);
    }

    private static void text() {
        WhoSigns x = new WhoSigns();
        Due.is("20: nothing", x.text(), -100);
        for (int k = 0; k < 14; k++) {
            Due.is("20: text", Due.text(x, k % 2 == 0 ? "may 1" : "  cost m * r  "), k);
            Due.is("20: used up", x.count(9), 0);
        }
        Due.is("20: a fault ahead of full", Due.text(x, "may"), -103);
        Due.is("20: used up by a fault", x.count(9), 0);
        Due.is("20: full", Due.text(x, "may 1"), FULL);
        Due.is("20: used up by full", x.count(9), 0);
        Due.is("20: fourteen", x.count(4), 14);
        Due.is("20: the latest stays", x.why(0), 12);
    }

    private static void fault(String text, int place) {
        Due.is("20: fault of \"" + text + "\"", Due.text(new WhoSigns(), text), -100 - place);
    }

    private static void fine(String text) {
        Due.is("20: \"" + text + "\"", Due.text(new WhoSigns(), text), 0);
    }

    private static void faults() {
        fault("   ", 3);
        fault("ma", 0);
        fault(" mays 1", 1);
        fault("mayk", 0);
        fault("mayz 1", 0);
        fault("amay 1", 0);
        fault("may 1{", 5);
        fault("may 1`", 5);
        fault("may 1:2", 5);
        fault("May 1", 0);
        fault("1", 0);
        fault("may", 3);
        fault("may  ", 5);
        fault("may1", 3);
        fault("may 12k", 6);
        fault("may k12", 5);
        fault("may k 1", 6);
        fault("may 1 2", 6);
        fault("may kk", 4);
        fault("may m", 4);
        fault("cost k", 5);
        fault("cost d", 5);
        fault("wait k", 5);
        fault("wait m", 5);
        fault("may 12345", 4);
        fault("may 00001", 4);
        fault("may 1+12345", 6);
        fault("may may", 4);
        fault("may +1", 4);
        fault("may -1", 4);
        fault("may 1+", 6);
        fault("may 1+*2", 6);
        fault("may 1<2<3", 7);
        fault("may 1<2 = 3", 8);
        fault("may 1<=2", 6);
        fault("may (1", 6);
        fault("may (1 ", 7);
        fault("may 1)", 5);
        fault("may ()", 5);
        fault("may (1))", 7);
        fault("may 1!", 5);
        fault("may 1(2)", 5);
        fault("may !", 5);
        fault("may 1#", 5);
        fault("may\t1", 3);
        fault("may 1\n", 5);
        fault("may 1" + (char) 160, 5);
        fault("may " + (char) 233, 4);
        fine("may(1)");
        fine("may!1");
        fine("may k+r*o-d/1<2&3|4");
        fine("cost r+o+m");
        fine("wait r+o+d");
        fine("may (1<2)<3");
        fine("may 1<2&3>4|5=6");
        fine("may 9999");
        fine("may 0007");
        fine("   may   !   (  1  )   ");
    }

    private static void depths() {
        fine("may " + "(".repeat(8) + "1" + ")".repeat(8));
        fault("may " + "(".repeat(9) + "1" + ")".repeat(9), 12);
        fault("may (1)+" + "(".repeat(9) + "1" + ")".repeat(9), 16);
        fine("may " + "(".repeat(8) + "1" + ")".repeat(8) + "+" + "(".repeat(8) + "1" + ")".repeat(8));
        fine("may " + "!".repeat(8) + "1");
        fault("may " + "!".repeat(9) + "1", 12);
        fine("may " + "!".repeat(8) + "1+" + "!".repeat(8) + "1");
        fine("may " + "!(".repeat(8) + "1" + ")".repeat(8));
        fine("may " + "!".repeat(8) + "(".repeat(8) + "1" + ")".repeat(8));
        fault("may " + "!(".repeat(8) + "!1" + ")".repeat(8), 20);
        fault("may " + "!(".repeat(8) + "(1)" + ")".repeat(8), 20);
        fine("may " + "!(1)+".repeat(9) + "1");
    }

    private static void worth(String text, int want) {
        WhoSigns x = new WhoSigns();
        x.person(3, 7, 0);
        x.days(9);
        Due.text(x, "wait " + text);
        Due.is("20: worth of " + text, x.personTold(0, 7), want);
    }

    private static void worths() {
        worth("r", 7);
        worth("o", 3);
        worth("d", 9);
        worth("2+3*4", 14);
        worth("(2+3)*4", 20);
        worth("9-3-2", 4);
        worth("9-(3-2)", 8);
        worth("100/7/2", 7);
        worth("(0-7)/2", -3);
        worth("5/0", 0);
        worth("0/0", 0);
        worth("7/2*2", 6);
        worth("1|0&0", 1);
        worth("5&3", 1);
        worth("0|0", 0);
        worth("5|0", 1);
        worth("1<2", 1);
        worth("2<1", 0);
        worth("1<1", 0);
        worth("1>1", 0);
        worth("(0|1)*3", 3);
        worth("(1<2)+(2>1)", 2);
        worth("2>1", 1);
        worth("1=1", 1);
        worth("1+1=2", 1);
        worth("1=1+1", 0);
        worth("!5", 0);
        worth("!0", 1);
        worth("!!5", 1);
        worth("!0+1", 2);
        worth("!0*5", 5);
        worth("!(0+1)", 0);
        worth("5=5&4=4", 1);
        worth("9999*9999*9999", 9999 * 9999 * 9999);
        worth("0-9999*9999*9999", -(9999 * 9999 * 9999));
        worth("1<2|5/0", 1);
    }

    private static void textTold() {
        WhoSigns x = new WhoSigns();
        Due.text(x, "may 1");
        Due.text(x, "cost (r+o)*m-12+!3");
        Due.text(x, "wait 1234");
        Due.is("21: may", x.textTold(0, 0), 0);
        Due.is("21: cost", x.textTold(1, 0), 1);
        Due.is("21: wait", x.textTold(2, 0), 2);
        Due.is("21: one", x.textTold(0, 1), 1);
        Due.is("21: five", x.textTold(1, 1), 5);
        Due.is("21: one", x.textTold(2, 1), 1);
        Due.is("21: what 2", x.textTold(0, 2), BAD);
        Due.is("21: what -1", x.textTold(0, -1), BAD);
        Due.is("21: text 3", x.textTold(3, 0), BAD);
        Due.is("21: text -1", x.textTold(-1, 0), BAD);
    }

    private static void why() {
        WhoSigns x = new WhoSigns();
        for (int key = 0; key < 3; key++) {
            Due.is("22: none", x.why(key), NONE);
        }
        Due.text(x, "wait 1");
        Due.is("22: text 0", x.why(2), 0);
        Due.text(x, "may 0");
        Due.text(x, "wait 2");
        Due.text(x, "wait");
        Due.is("22: may", x.why(0), 1);
        Due.is("22: cost", x.why(1), NONE);
        Due.is("22: the last told", x.why(2), 2);
        Due.is("22: key 3", x.why(3), BAD);
        Due.is("22: key -1", x.why(-1), BAD);
    }
}
