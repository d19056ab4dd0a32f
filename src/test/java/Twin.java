import java.util.Arrays;
import java.util.List;
import java.util.function.Function;
import java.util.function.Supplier;
import java.util.function.ToIntFunction;

/**
 * A state that can be made again and again: what a call answers there, and that a refused one changes nothing.
 * After the call all that can be asked is asked, and must be answered as by one that never had the call. Each
 * group of questions has an object of its own, so that what one of them uses up does not hide a change, and so
 * that none has more than 512 calls.
 */
final class Twin {
    static final int MIN = Integer.MIN_VALUE, MAX = Integer.MAX_VALUE;

    private static final List<Function<WhoSigns, int[]>> GROUPS = List.of(Twin::people, Twin::rules, Twin::ways,
        Twin::logged, Twin::sheets, Twin::slots, Twin::tape, Twin::numbers, Twin::offers,
        x -> behind(x.back(), people(x)), x -> behind(x.back(), rules(x)), x -> behind(x.back(), ways(x)),
        x -> behind(x.back(), logged(x)));

    private final String name;
    private final Supplier<WhoSigns> made;
    private int[][] untouched = null;

    Twin(String name, Supplier<WhoSigns> made) {
        this.name = name;
        this.made = made;
    }

    static Twin bare() {
        return new Twin("bare", WhoSigns::new);
    }

    static Twin few() {
        return new Twin("few", Twin::makeFew);
    }

    static Twin full() {
        return new Twin("full", Twin::makeFull);
    }

    WhoSigns make() {
        return made.get();
    }

    /** The call answers so, and nothing is changed. */
    void refuses(String what, int due, ToIntFunction<WhoSigns> call) {
        if (untouched == null) {
            untouched = all(made, x -> 0);
        }
        compare(what, due, call, untouched);
    }

    /** The call answers so, and nothing is changed but what another act changes too. */
    void refusesBut(String what, int due, ToIntFunction<WhoSigns> call, ToIntFunction<WhoSigns> act) {
        compare(what, due, call, all(made, act));
    }

    private void compare(String what, int due, ToIntFunction<WhoSigns> call, int[][] want) {
        Due.is(what + " (" + name + ")", call.applyAsInt(made.get()), due);
        int[][] got = all(made, call);
        for (int g = 0; g < got.length; g++) {
            Due.yes(what + " (" + name + ") changes nothing of group " + g, Arrays.equals(got[g], want[g]));
        }
    }

    private static int[][] all(Supplier<WhoSigns> made, ToIntFunction<WhoSigns> act) {
        int[][] rows = new int[GROUPS.size()][];
        for (int g = 0; g < rows.length; g++) {
            WhoSigns x = made.get();
            act.applyAsInt(x);
            rows[g] = GROUPS.get(g).apply(x);
        }
        return rows;
    }

    // ---- states

    /** Some of each thing, and an image of an earlier day. */
    private static WhoSigns makeFew() {
        WhoSigns x = new WhoSigns();
        x.person(1, 3, 2);
        x.person(2, 5, 4);
        x.person(4, 9, 0);
        x.paper(0, 0, true);
        x.paper(2, 7, true);
        x.step(0, 0, 10);
        x.step(-1, 4, 60);
        x.step(7, 3, 1);
        x.rule(3, 1, 2);
        x.rule(5, 20, 2);
        x.rule(0, 12, 9);
        Due.text(x, "wait d-r");
        x.offer(1, 0);
        x.sign(1, 2);
        x.days(2);
        x.keep();
        x.stand(1, 0, 7);
        x.away(0, 5, 6);
        x.away(2, 0, 1);
        x.offer(1, 7);
        Due.text(x, "may 1|k&o<d");
        Due.text(x, "cost m*r-o");
        x.over();
        x.sign(0, 0);
        x.days(3);
        x.seed(-77);
        x.sheet(0, 0, 5);
        x.mark(0, 2, 1);
        x.sheet(1, 1, 24);
        x.mark(1, 0, -128);
        x.mark(1, 23, 127);
        x.sheet(2, 1, 0);
        x.lay(1, 1, 1);
        x.lay(2, 2, 1);
        x.lay(3, 3, -9);
        Due.feed(x, "wait 7*d+1");
        x.tell(1);
        x.tell(1);
        x.tell(1);
        return x;
    }

    /** As much of each thing as there may be, on the last day. */
    private static WhoSigns makeFull() {
        WhoSigns x = new WhoSigns();
        for (int p = 0; p < 7; p++) {
            x.person(p % 5, 9 - p, p);
        }
        for (int s = 0; s < 6; s++) {
            x.step(s == 0 ? 7 : -1, s, 10 * s + 10);
        }
        x.paper(0, 7, true);
        x.paper(3, 7, true);
        for (int r = 0; r < 12; r++) {
            x.rule(r % 6 == 2 ? 0 : r % 6, r % 2 == 0 ? 5 : 50, r % 4);
        }
        for (int k = 0; k < 14; k++) {
            Due.text(x, k % 3 == 0 ? "may r+1" : k % 3 == 1 ? "cost m-r" : "wait r");
        }
        for (int k = 0; k < 6; k++) {
            x.offer(k, k + 2);
        }
        for (int k = 0; k < 30; k++) {
            x.sign(k % 6 == 0 ? 1 : k % 6, k % 4);
            x.over();
        }
        for (int k = 0; k < 60; k++) {
            x.tell(k);
        }
        for (int k = 0; k < 10; k++) {
            x.days(99);
        }
        x.keep();
        x.days(9);
        x.seed(Integer.MAX_VALUE);
        for (int s = 0; s < 4; s++) {
            x.sheet(s, s % 2, 24);
            x.mark(s, 23, 1);
        }
        for (int s = 0; s < 5; s++) {
            x.lay(s, 1 + s % 3, 3);
        }
        Due.feed(x, "may " + "1+".repeat(45) + "23");
        return x;
    }

    // ---- all that can be asked

    private static int[] behind(int first, int[] row) {
        int[] all = Arrays.copyOf(row, row.length + 1);
        all[row.length] = first;
        return all;
    }

    private static final class Row {
        private int[] row = new int[512];
        private int size = 0;

        void add(int answer) {
            row[size] = answer;
            size++;
        }

        int[] end() {
            return Arrays.copyOf(row, size);
        }
    }

    private static int[] people(WhoSigns x) {
        Row row = new Row();
        for (int what = 0; what <= 11; what++) {
            row.add(x.count(what));
        }
        for (int p = 0; p < 7; p++) {
            for (int what = 0; what <= 7; what++) {
                row.add(x.personTold(p, what));
            }
            for (int s = 0; s < 6; s++) {
                row.add(x.cost(p, s));
                row.add(x.may(p, s, 5));
            }
            row.add(x.may(p, 0, 1));
            row.add(x.may(p, 0, 7));
        }
        return row.end();
    }

    private static int[] rules(WhoSigns x) {
        Row row = new Row();
        for (int s = 0; s < 6; s++) {
            for (int what = 0; what <= 4; what++) {
                row.add(x.stepTold(s, what));
            }
        }
        for (int r = 0; r < 12; r++) {
            for (int what = 0; what <= 5; what++) {
                row.add(x.told(r, what));
            }
            row.add(x.keeps(r, 0, 1));
        }
        for (int t = 0; t < 14; t++) {
            row.add(x.textTold(t, 0));
            row.add(x.textTold(t, 1));
        }
        for (int key = 0; key < 3; key++) {
            row.add(x.why(key));
        }
        return row.end();
    }

    private static int[] ways(WhoSigns x) {
        Row row = new Row();
        row.add(x.ways(0));
        row.add(x.ways(6));
        row.add(x.ways(x.count(10)));
        for (int what = -1; what < 6; what++) {
            row.add(x.way(0, what));
            row.add(x.way(1, what));
            row.add(x.queue(what));
        }
        for (int p = 0; p < 7; p++) {
            row.add(x.must(p));
            row.add(x.sly(p));
        }
        row.add(x.missing());
        row.add(x.bears(1));
        row.add(x.soon());
        row.add(x.judge());
        row.add(x.luck(9));
        row.add(x.count(11));
        return row.end();
    }

    private static int[] logged(WhoSigns x) {
        Row row = new Row();
        for (int i = 0; i < 31; i++) {
            for (int what = 0; what < 3; what++) {
                row.add(x.log(i, what));
            }
        }
        for (int i = -1; i < 5; i++) {
            row.add(x.audit(i));
        }
        return row.end();
    }

    private static int[] sheets(WhoSigns x) {
        Row row = new Row();
        for (int s = 0; s < 4; s++) {
            for (int place = 0; place <= 24; place++) {
                row.add(x.mark(s, place, 2));
            }
            // a second mark tells booleans from bytes; copies of none do where there is no place
            row.add(x.mark(s, 0, 2));
        }
        for (int s = 0; s < 4; s++) {
            row.add(x.copy(s, 0, (s + 1) % 4, 0, 0));
        }
        x.sheet(0, 1, 0);
        for (int s = 1; s < 4; s++) {
            row.add(x.copy(s, 0, 0, 0, 0));
        }
        return row.end();
    }

    private static int[] slots(WhoSigns x) {
        Row row = new Row();
        for (int s = 0; s < 5; s++) {
            for (int kind = 0; kind < 6; kind++) {
                row.add(x.ask(s, kind));
            }
            for (int place = 0; place <= 24; place++) {
                row.add(x.item(s, place));
            }
            row.add(x.rest(s, MAX));
            row.add(x.lay(s, 0, 0));
        }
        return row.end();
    }

    private static int[] tape(WhoSigns x) {
        Row row = new Row();
        int before = x.count(4);
        row.add(x.count(9));
        row.add(x.text());
        row.add(x.textTold(before, 0));
        row.add(x.textTold(before, 1));
        for (int p = 0; p < 7; p++) {
            row.add(x.personTold(p, 7));
        }
        return row.end();
    }

    private static int[] numbers(WhoSigns x) {
        return new int[] {x.count(8), x.check(3), x.count(8)};
    }

    /** Of offers only their sum is told: what they teach, and what each paper taken away leaves of that. */
    private static int[] offers(WhoSigns x) {
        Row row = new Row();
        row.add(x.teach());
        for (int p = 0; p < 7; p++) {
            x.paper(p, 0, false);
            x.paper(p, 7, false);
            row.add(x.teach());
        }
        row.add(x.clear());
        return row.end();
    }
}
