import java.util.Random;

/** Random offices with many people, steps and rules: what is asked of ways, beside all ways written out. */
public final class SearchTest {
    public static void main(String[] args) {
        int offices = args.length > 0 ? Integer.parseInt(args[0]) : 600;
        for (int k = 0; k < offices; k++) {
            ask(new Random(k), k % 30 == 0);
        }
        Due.end("SearchTest");
    }

    private static void ask(Random random, boolean largest) {
        WhoSigns x = new WhoSigns();
        NaiveSigns y = new NaiveSigns();
        int people = largest ? 7 : 2 + random.nextInt(4);
        int steps = largest ? 6 : 2 + random.nextInt(4);
        fill(random, x, y, people, steps);
        String name = "office of " + people + " and " + steps + ": ";
        Due.is(name + "ways", x.ways(0), y.call("ways", 0));
        for (int which = 0; which < 2; which++) {
            for (int what = -1; what < (largest ? 1 : steps); what++) {
                Due.is(name + "way " + which + " " + what, x.way(which, what), y.call("way", which, what));
            }
        }
        for (int p = 0; p < people; p++) {
            Due.is(name + "must " + p, x.must(p), y.call("must", p));
            Due.is(name + "sly " + p, x.sly(p), y.call("sly", p));
        }
        for (int what = -1; what < steps; what++) {
            Due.is(name + "queue " + what, x.queue(what), y.call("queue", what));
        }
        if (!largest) {
            Due.is(name + "missing", x.missing(), y.call("missing"));
            Due.is(name + "teach", x.teach(), y.call("teach"));
            Due.is(name + "luck", x.luck(20), y.call("luck", 20));
            for (int n = 0; n <= people; n++) {
                Due.is(name + "bears " + n, x.bears(n), y.call("bears", n));
            }
        }
    }

    private static void fill(Random random, WhoSigns x, NaiveSigns y, int people, int steps) {
        for (int p = 0; p < people; p++) {
            int rank = random.nextInt(6);
            int kin = random.nextInt(3);
            x.person(0, rank, kin);
            y.call("person", 0, rank, kin);
            for (int paper = 0; paper < 2; paper++) {
                boolean has = random.nextInt(3) != 0;
                x.paper(p, paper, has);
                y.call("paper", p, paper, has ? 1 : 0);
            }
        }
        for (int s = 0; s < steps; s++) {
            int paper = random.nextInt(3) - 1;
            int least = random.nextInt(3);
            int minutes = 1 + random.nextInt(9);
            x.step(paper, least, minutes);
            y.call("step", paper, least, minutes);
        }
        for (int r = random.nextInt(6); r > 0; r--) {
            int kind = random.nextInt(6);
            int both = 10 * random.nextInt(steps) + random.nextInt(steps);
            int n = random.nextInt(4);
            x.rule(kind, both, n);
            y.call("rule", kind, both, n);
        }
        for (int k = random.nextInt(4); k > 0; k--) {
            int person = random.nextInt(people);
            int paper = random.nextInt(2);
            x.offer(person, paper);
            y.call("offer", person, paper);
        }
        for (int k = random.nextInt(3); k > 0; k--) {
            int step = random.nextInt(steps);
            int person = random.nextInt(people);
            Due.is("sign", x.sign(step, person), y.call("sign", step, person));
        }
    }
}
