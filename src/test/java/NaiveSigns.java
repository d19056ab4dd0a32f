import java.util.ArrayList;
import java.util.Arrays;
import java.util.List;

/**
 * The document once more, in the most literal way: every way is written out, every set is tried.
 * It answers calls by name, so that random runs can be laid beside those of WhoSigns.
 */
final class NaiveSigns {
    static final int BAD = -1000000001, NO = -1000000002, FULL = -1000000003, NONE = -1000000005;
    static final int NOTHING = -1000000011, KIND = -1000000012, INDEX = -1000000013, SIZE = -1000000014;

    /** office, rank, kin, papers, from, to, stands for, till */
    List<int[]> people = new ArrayList<>();
    /** paper, least, minutes, signer */
    List<int[]> steps = new ArrayList<>();
    /** kind, i, j, n */
    List<int[]> rules = new ArrayList<>();
    List<NaiveText> texts = new ArrayList<>();
    List<int[]> offers = new ArrayList<>();
    List<int[]> log = new ArrayList<>();
    int day = 0;
    int z = 1;

    NaiveSigns image = null;
    List<Integer> tape = new ArrayList<>();
    List<Integer> told = new ArrayList<>();
    int[][] sheets = new int[4][];
    int[] sorts = new int[4];
    Object[] slots = new Object[5];

    NaiveSigns state() {
        NaiveSigns s = new NaiveSigns();
        s.become(this);
        return s;
    }

    void become(NaiveSigns o) {
        people = rows(o.people);
        steps = rows(o.steps);
        rules = rows(o.rules);
        texts = new ArrayList<>(o.texts);
        offers = rows(o.offers);
        log = rows(o.log);
        day = o.day;
        z = o.z;
    }

    static List<int[]> rows(List<int[]> from) {
        List<int[]> to = new ArrayList<>();
        for (int[] row : from) {
            to.add(row.clone());
        }
        return to;
    }

    // ---- terms

    boolean away(int p, int d) {
        return people.get(p)[4] <= d && d <= people.get(p)[5];
    }

    boolean has(int p, int paper, int d) {
        int[] one = people.get(p);
        if ((one[3] & 1 << paper) != 0) {
            return true;
        }
        return one[6] != -1 && one[7] >= d && away(one[6], d) && (people.get(one[6])[3] & 1 << paper) != 0;
    }

    int why(int key) {
        for (int t = texts.size() - 1; t >= 0; t--) {
            if (texts.get(t).key == key) {
                return t;
            }
        }
        return NONE;
    }

    boolean mayDo(int p, int s, int d) {
        int[] one = people.get(p);
        int[] step = steps.get(s);
        int by = why(0) == NONE ? 1 : texts.get(why(0)).worth("k", s, "r", one[1], "o", one[0], "d", d);
        return !away(p, d) && (step[0] == -1 || has(p, step[0], d)) && one[1] >= step[1] && by != 0;
    }

    int costOf(int p, int s) {
        int[] one = people.get(p);
        int minutes = steps.get(s)[2];
        if (why(1) == NONE) {
            return minutes * (one[1] + 1);
        }
        int by = texts.get(why(1)).worth("r", one[1], "o", one[0], "m", minutes);
        return by < 0 ? 0 : by > 9999 ? 9999 : by;
    }

    int waitOf(int p) {
        int[] one = people.get(p);
        return why(2) == NONE ? 10 * one[1] : texts.get(why(2)).worth("r", one[1], "o", one[0], "d", day);
    }

    boolean kept(int[] rule, int[] who) {
        int i = rule[1];
        int j = rule[2];
        if (rule[0] == 5) {
            List<Integer> unlike = new ArrayList<>();
            for (int s = Math.min(i, j); s <= Math.max(i, j); s++) {
                if (who[s] == -1) {
                    return true;
                }
                if (!unlike.contains(who[s])) {
                    unlike.add(who[s]);
                }
            }
            return unlike.size() >= rule[3];
        }
        int a = who[i];
        int b = who[j];
        if (a == -1 || b == -1 || rule[0] == 0) {
            return true;
        }
        if (rule[0] == 2) {
            return a == b;
        }
        boolean apart = a != b;
        if (rule[0] == 3) {
            boolean kin = people.get(a)[2] == people.get(b)[2] && people.get(a)[2] != 0;
            return apart && !kin;
        }
        return rule[0] == 4 ? apart && people.get(b)[1] >= people.get(a)[1] + rule[3] : apart;
    }

    boolean allKept(int[] who) {
        for (int[] rule : rules) {
            if (!kept(rule, who)) {
                return false;
            }
        }
        return true;
    }

    int[] signed() {
        int[] who = new int[6];
        Arrays.fill(who, -1);
        for (int s = 0; s < steps.size(); s++) {
            who[s] = steps.get(s)[3];
        }
        return who;
    }

    /** All ways of a day, in order. */
    List<int[]> allWays(int d, int missing) {
        boolean[][] can = new boolean[steps.size()][people.size()];
        for (int s = 0; s < steps.size(); s++) {
            for (int p = 0; p < people.size(); p++) {
                int signer = steps.get(s)[3];
                can[s][p] = signer != -1 ? signer == p : (missing & 1 << p) == 0 && mayDo(p, s, d);
            }
        }
        List<int[]> all = new ArrayList<>();
        int[] who = new int[6];
        Arrays.fill(who, -1);
        write(0, who, can, all);
        return all;
    }

    private void write(int s, int[] who, boolean[][] can, List<int[]> all) {
        if (s == steps.size()) {
            if (allKept(who)) {
                all.add(who.clone());
            }
            return;
        }
        for (int p = 0; p < people.size(); p++) {
            if (can[s][p]) {
                who[s] = p;
                write(s + 1, who, can, all);
            }
        }
        who[s] = -1;
    }

    boolean any(int missing) {
        return !allWays(day, missing).isEmpty();
    }

    int costOfWay(int[] who) {
        int sum = 0;
        for (int s = 0; s < steps.size(); s++) {
            sum += steps.get(s)[3] == -1 ? costOf(who[s], s) : 0;
        }
        return sum;
    }

    static int does(int[] who, int person) {
        int many = 0;
        for (int p : who) {
            many += p == person ? 1 : 0;
        }
        return many;
    }

    boolean bearsAny(int n) {
        for (int set = 0; set < 1 << people.size(); set++) {
            if (Integer.bitCount(set) == n && !any(set)) {
                return false;
            }
        }
        return true;
    }

    int[] turnUp() {
        List<Integer> line = new ArrayList<>();
        for (int p = 0; p < people.size(); p++) {
            if (!away(p, day)) {
                line.add(p);
            }
        }
        line.sort((a, b) -> waitOf(a) != waitOf(b) ? Integer.compare(waitOf(a), waitOf(b)) : Integer.compare(a, b));
        int[] who = signed();
        while (true) {
            boolean took = false;
            for (int p : line) {
                for (int s = 0; s < steps.size(); s++) {
                    if (who[s] == -1 && mayDo(p, s, day)) {
                        who[s] = p;
                        if (allKept(who)) {
                            took = true;
                            break;
                        }
                        who[s] = -1;
                    }
                }
            }
            if (!took) {
                return who;
            }
        }
    }

    static int weight(int[] rule) {
        int n = rule[3];
        return new int[] {1, 1 + n, 4, 2 * (1 + n), 1 + n + 3, n * n}[rule[0]];
    }

    static boolean under(int kind, int other) {
        return other == kind || other == 0 || other == 1 && (kind == 3 || kind == 4);
    }

    boolean isPerson(int p) {
        return p >= 0 && p < people.size();
    }

    boolean isStep(int s) {
        return s >= 0 && s < steps.size();
    }

    boolean isRule(int r) {
        return r >= 0 && r < rules.size();
    }

    static boolean in(int v, int a, int b) {
        return v >= a && v <= b;
    }

    static int bit(boolean b) {
        return b ? 1 : 0;
    }

    int signedCount() {
        int n = 0;
        for (int[] step : steps) {
            n += step[3] == -1 ? 0 : 1;
        }
        return n;
    }

    // ---- calls

    int call(String name, int... a) {
        switch (name) {
            case "person":
                if (!in(a[0], 0, 4) || !in(a[1], 0, 9) || !in(a[2], 0, 9)) {
                    return BAD;
                }
                if (people.size() == 7) {
                    return FULL;
                }
                people.add(new int[] {a[0], a[1], a[2], 0, 1, 0, -1, 0});
                return people.size() - 1;
            case "personTold": return personTold(a[0], a[1]);
            case "paper":
                if (!isPerson(a[0]) || !in(a[1], 0, 7)) {
                    return BAD;
                }
                return setPaper(a[0], a[1], a[2] != 0);
            case "away":
                if (!isPerson(a[0]) || !in(a[1], 0, 999) || !in(a[2], 0, 999)) {
                    return BAD;
                }
                people.get(a[0])[4] = a[1];
                people.get(a[0])[5] = a[2];
                return bit(away(a[0], day));
            case "stand": return stand(a[0], a[1], a[2]);
            case "step":
                if (!in(a[0], -1, 7) || !in(a[1], 0, 9) || !in(a[2], 1, 60)) {
                    return BAD;
                }
                if (steps.size() == 6) {
                    return FULL;
                }
                steps.add(new int[] {a[0], a[1], a[2], -1});
                return steps.size() - 1;
            case "stepTold": return stepTold(a[0], a[1]);
            case "days":
                if (!in(a[0], 1, 99)) {
                    return BAD;
                }
                if (day + a[0] > 999) {
                    return FULL;
                }
                return day += a[0];
            case "may": return !isPerson(a[0]) || !isStep(a[1]) || !in(a[2], 0, 999) ? BAD : bit(mayDo(a[0], a[1], a[2]));
            case "cost": return !isPerson(a[0]) || !isStep(a[1]) ? BAD : costOf(a[0], a[1]);
            case "rule": return rule(a[0], a[1], a[2]);
            case "told": return ruleTold(a[0], a[1]);
            case "as":
                if (!isRule(a[0]) || !in(a[1], 0, 5)) {
                    return BAD;
                }
                return under(rules.get(a[0])[0], a[1]) ? rules.get(a[0])[3] : KIND;
            case "turns": {
                if (!isRule(a[0]) || !in(a[1], 0, 5)) {
                    return BAD;
                }
                int was = rules.get(a[0])[0];
                rules.get(a[0])[0] = a[1];
                return was;
            }
            case "drop":
                if (!isRule(a[0])) {
                    return BAD;
                }
                rules.remove(a[0]);
                return rules.size();
            case "keeps": {
                if (!isRule(a[0]) || !isPerson(a[1]) || !isPerson(a[2])) {
                    return BAD;
                }
                int[] who = {-1, -1, -1, -1, -1, -1};
                who[rules.get(a[0])[1]] = a[1];
                who[rules.get(a[0])[2]] = a[2];
                return bit(kept(rules.get(a[0]), who));
            }
            default: return textCall(name, a);
        }
    }

    private int personTold(int p, int what) {
        if (!isPerson(p) || !in(what, 0, 7)) {
            return BAD;
        }
        int[] one = people.get(p);
        if (what == 4) {
            return bit(away(p, day));
        }
        if (what == 7) {
            return waitOf(p);
        }
        if (what >= 5) {
            return one[6] == -1 ? NONE : one[what + 1];
        }
        return one[what];
    }

    private int setPaper(int p, int paper, boolean has) {
        boolean had = (people.get(p)[3] & 1 << paper) != 0;
        if (had == has) {
            return 0;
        }
        people.get(p)[3] ^= 1 << paper;
        return 1;
    }

    private int stand(int p, int other, int till) {
        if (!isPerson(p) || other != -1 && (!isPerson(other) || p == other || !in(till, 0, 999))) {
            return BAD;
        }
        int was = people.get(p)[6];
        people.get(p)[6] = other;
        people.get(p)[7] = till;
        return was == -1 ? NONE : was;
    }

    private int stepTold(int s, int what) {
        if (!isStep(s) || !in(what, 0, 4)) {
            return BAD;
        }
        if (what == 4) {
            int many = 0;
            for (int p = 0; p < people.size(); p++) {
                many += bit(mayDo(p, s, day));
            }
            return many;
        }
        int v = steps.get(s)[what];
        return v == -1 ? NONE : v;
    }

    private int rule(int kind, int both, int n) {
        for (int i = 0; i < steps.size(); i++) {
            for (int j = 0; j < steps.size(); j++) {
                if (i != j && both == 10 * i + j && in(kind, 0, 5) && in(n, 0, 9)) {
                    if (rules.size() == 12) {
                        return FULL;
                    }
                    rules.add(new int[] {kind, i, j, n});
                    return rules.size() - 1;
                }
            }
        }
        return BAD;
    }

    private int ruleTold(int r, int what) {
        if (!isRule(r) || !in(what, 0, 5)) {
            return BAD;
        }
        if (what == 4) {
            return weight(rules.get(r));
        }
        return what == 5 ? bit(kept(rules.get(r), signed())) : rules.get(r)[what];
    }

    private int textCall(String name, int... a) {
        switch (name) {
            case "feed":
                if (tape.size() + 12 > 96) {
                    return FULL;
                }
                for (int v : a) {
                    for (int shift = 24; shift >= 0; shift -= 8) {
                        tape.add(v >> shift & 255);
                    }
                }
                return tape.size();
            case "trim":
                if (!in(a[0], 0, tape.size())) {
                    return BAD;
                }
                tape = new ArrayList<>(tape.subList(0, a[0]));
                return a[0];
            case "text": {
                NaiveText t = new NaiveText(tape);
                tape = new ArrayList<>();
                if (t.fault >= 0) {
                    return -100 - t.fault;
                }
                if (texts.size() == 14) {
                    return FULL;
                }
                texts.add(t);
                return texts.size() - 1;
            }
            case "textTold":
                if (!in(a[0], 0, texts.size() - 1) || !in(a[1], 0, 1)) {
                    return BAD;
                }
                return a[1] == 0 ? texts.get(a[0]).key : texts.get(a[0]).pieces;
            case "why": return in(a[0], 0, 2) ? why(a[0]) : BAD;
            default: return wayCall(name, a);
        }
    }

    private int wayCall(String name, int... a) {
        switch (name) {
            case "ways": return in(a[0], 0, 999) ? allWays(a[0], 0).size() : BAD;
            case "way": return way(a[0], a[1]);
            case "must": {
                if (!isPerson(a[0])) {
                    return BAD;
                }
                List<int[]> all = allWays(day, 0);
                int in = 0;
                for (int[] who : all) {
                    in += does(who, a[0]) > 0 ? 1 : 0;
                }
                return in == 0 ? 0 : in == all.size() ? 2 : 1;
            }
            case "sly": {
                if (!isPerson(a[0])) {
                    return BAD;
                }
                int most = NONE;
                for (int[] who : allWays(day, 0)) {
                    most = Math.max(most, does(who, a[0]));
                }
                return most;
            }
            case "missing": return missing();
            case "bears": return in(a[0], 0, Math.min(7, people.size())) ? bit(bearsAny(a[0])) : BAD;
            case "offer":
                if (!isPerson(a[0]) || !in(a[1], 0, 7)) {
                    return BAD;
                }
                if (offers.size() == 6) {
                    return FULL;
                }
                offers.add(new int[] {a[0], a[1]});
                return offers.size() - 1;
            case "clear": {
                int were = offers.size();
                offers.clear();
                return were;
            }
            case "teach": return teach();
            case "soon":
                for (int d = day; d < day + 60 && d <= 999; d++) {
                    if (!allWays(d, 0).isEmpty()) {
                        return d;
                    }
                }
                return NONE;
            default: return signCall(name, a);
        }
    }

    private int way(int which, int what) {
        if (!in(which, 0, 1) || what != -1 && !isStep(what)) {
            return BAD;
        }
        int[] best = null;
        for (int[] who : allWays(day, 0)) {
            if (best == null || which == 1 && costOfWay(who) < costOfWay(best)) {
                best = who;
            }
        }
        if (best == null) {
            return NONE;
        }
        return what == -1 ? costOfWay(best) : best[what];
    }

    private int missing() {
        if (!any(0)) {
            return NO;
        }
        int best = NONE;
        for (int set = 0; set < 1 << people.size(); set++) {
            if ((best == NONE || Integer.bitCount(set) < Integer.bitCount(best)) && !any(set)) {
                best = set;
            }
        }
        return best;
    }

    private int teach() {
        if (people.isEmpty()) {
            return 0;
        }
        int best = NONE;
        for (int set = 0; set < 1 << offers.size(); set++) {
            NaiveSigns taught = state();
            for (int k = 0; k < offers.size(); k++) {
                if ((set & 1 << k) != 0) {
                    taught.people.get(offers.get(k)[0])[3] |= 1 << offers.get(k)[1];
                }
            }
            if ((best == NONE || Integer.bitCount(set) < Integer.bitCount(best)) && taught.bearsAny(1)) {
                best = set;
            }
        }
        return best;
    }

    private int signCall(String name, int... a) {
        switch (name) {
            case "sign": {
                if (!isStep(a[0]) || !isPerson(a[1])) {
                    return BAD;
                }
                int[] who = signed();
                if (who[a[0]] != -1 || !mayDo(a[1], a[0], day)) {
                    return NO;
                }
                who[a[0]] = a[1];
                if (!allKept(who)) {
                    return NO;
                }
                steps.get(a[0])[3] = a[1];
                log.add(new int[] {day, a[0], a[1]});
                if (log.size() > 30) {
                    log.remove(0);
                }
                return signedCount();
            }
            case "over": {
                int were = signedCount();
                for (int[] step : steps) {
                    step[3] = -1;
                }
                return were;
            }
            case "judge":
                for (int r = 0; r < rules.size(); r++) {
                    if (!kept(rules.get(r), signed())) {
                        return r;
                    }
                }
                return NONE;
            case "queue": {
                if (a[0] != -1 && !isStep(a[0])) {
                    return BAD;
                }
                int[] who = turnUp();
                if (a[0] == -1) {
                    return 6 - does(who, -1);
                }
                return who[a[0]] == -1 ? NONE : who[a[0]];
            }
            case "log":
                if (a[0] < 0 || !in(a[1], 0, 2)) {
                    return BAD;
                }
                return a[0] >= log.size() ? NONE : log.get(a[0])[a[1]];
            case "audit": {
                List<Integer> found = new ArrayList<>();
                for (int k = 0; k < log.size(); k++) {
                    if (!mayDo(log.get(k)[2], log.get(k)[1], day)) {
                        found.add(k);
                    }
                }
                if (a[0] < -1) {
                    return BAD;
                }
                return a[0] == -1 ? found.size() : a[0] < found.size() ? found.get(a[0]) : NONE;
            }
            case "seed": {
                int was = z;
                z = a[0];
                return was;
            }
            case "luck": return luck(a[0]);
            default: return sheetCall(name, a);
        }
    }

    private int luck(int m) {
        if (!in(m, 1, 60)) {
            return BAD;
        }
        int lucky = 0;
        Boolean[] known = new Boolean[128];
        for (int t = 0; t < m; t++) {
            int set = 0;
            for (int p = 0; p < people.size(); p++) {
                z = (int) (z * 1103515245L + 12345L);
                set |= (z >>> 8) % 4 == 0 ? 1 << p : 0;
            }
            if (known[set] == null) {
                known[set] = any(set);
            }
            lucky += bit(known[set]);
        }
        return lucky;
    }

    private int sheetCall(String name, int... a) {
        switch (name) {
            case "sheet":
                if (!in(a[0], 0, 3) || !in(a[1], -1, 1) || a[1] != -1 && a[2] > 24) {
                    return BAD;
                }
                if (a[1] != -1 && a[2] < 0) {
                    return SIZE;
                }
                sheets[a[0]] = a[1] == -1 ? null : new int[a[2]];
                sorts[a[0]] = a[1];
                return a[1] == -1 ? 0 : a[2];
            case "mark": {
                if (!in(a[0], 0, 3)) {
                    return BAD;
                }
                int[] row = sheets[a[0]];
                if (row == null) {
                    return NOTHING;
                }
                if (!in(a[1], 0, row.length - 1)) {
                    return INDEX;
                }
                int was = row[a[1]];
                row[a[1]] = sorts[a[0]] == 0 ? bit(a[2] != 0) : (byte) a[2];
                return was;
            }
            case "papers": {
                if (!isPerson(a[0]) || !in(a[1], 0, 3)) {
                    return BAD;
                }
                if (sheets[a[1]] == null) {
                    return NOTHING;
                }
                int changed = 0;
                for (int paper = 0; paper < 8 && paper < sheets[a[1]].length; paper++) {
                    changed += setPaper(a[0], paper, sheets[a[1]][paper] != 0);
                }
                return changed;
            }
            case "copy": return copy(a[0], a[1], a[2], a[3], a[4]);
            case "lay": return lay(a[0], a[1], a[2]);
            default: return slotCall(name, a);
        }
    }

    private int copy(int from, long place, int to, long at, long many) {
        if (!in(from, 0, 3) || !in(to, 0, 3)) {
            return BAD;
        }
        if (sheets[from] == null || sheets[to] == null) {
            return NOTHING;
        }
        if (sorts[from] != sorts[to]) {
            return KIND;
        }
        if (many < 0 || place < 0 || at < 0 || place + many > sheets[from].length || at + many > sheets[to].length) {
            return INDEX;
        }
        int[] were = sheets[from].clone();
        for (int k = 0; k < many; k++) {
            sheets[to][(int) at + k] = were[(int) place + k];
        }
        return (int) many;
    }

    private int held(int slot) {
        Object o = slots[slot];
        return o == null ? 0 : o instanceof Integer ? 3 : o instanceof NaiveRule ? 1 : 2;
    }

    record NaiveRule(int[] row) {
    }

    private int lay(int slot, int thing, int k) {
        if (!in(slot, 0, 4) || !in(thing, 0, 3) || thing == 1 && !isRule(k) || thing == 2 && !in(k, 0, 3)) {
            return BAD;
        }
        if (thing == 2 && sheets[k] == null) {
            return NOTHING;
        }
        int was = held(slot);
        slots[slot] = null;
        if (thing == 1) {
            slots[slot] = new NaiveRule(rules.get(k).clone());
        } else if (thing == 2) {
            slots[slot] = sheets[k].clone();
        } else if (thing == 3) {
            slots[slot] = k;
        }
        return was;
    }

    private int slotCall(String name, int... a) {
        switch (name) {
            case "ask":
                if (!in(a[0], 0, 4) || !in(a[1], 0, 5)) {
                    return BAD;
                }
                if (slots[a[0]] == null) {
                    return NOTHING;
                }
                if (!(slots[a[0]] instanceof NaiveRule)) {
                    return KIND;
                }
                int[] rule = ((NaiveRule) slots[a[0]]).row();
                return under(rule[0], a[1]) ? weight(rule) : KIND;
            case "item":
                if (!in(a[0], 0, 4)) {
                    return BAD;
                }
                if (slots[a[0]] == null) {
                    return NOTHING;
                }
                if (held(a[0]) != 2) {
                    return KIND;
                }
                int[] row = (int[]) slots[a[0]];
                return in(a[1], 0, row.length - 1) ? row[a[1]] : INDEX;
            case "rest":
                if (!in(a[0], 0, 4)) {
                    return BAD;
                }
                if (slots[a[0]] == null) {
                    return NOTHING;
                }
                if (held(a[0]) != 3) {
                    return KIND;
                }
                return a[1] == 0 ? NO : (int) ((long) (Integer) slots[a[0]] % a[1]);
            default: return imageCall(name, a);
        }
    }

    private int imageCall(String name, int... a) {
        switch (name) {
            case "tell":
                if (told.size() == 60) {
                    return FULL;
                }
                told.add(a[0]);
                return told.size();
            case "check": return check(a[0]);
            case "keep":
                image = state();
                return day;
            case "back":
                if (image == null) {
                    return NO;
                }
                become(image);
                return day;
            case "count": {
                int gone = 0;
                for (int p = 0; p < people.size(); p++) {
                    gone += bit(away(p, day));
                }
                int[] all = {people.size(), steps.size(), rules.size(), signedCount(), texts.size(), offers.size(),
                    log.size(), gone, told.size(), tape.size(), day, z};
                return in(a[0], 0, 11) ? all[a[0]] : BAD;
            }
            default: throw new IllegalArgumentException(name);
        }
    }

    private int check(int n) {
        List<Integer> numbers = told;
        told = new ArrayList<>();
        if (!in(n, 1, 20)) {
            return BAD;
        }
        if (image == null || image.day + n - 1 > 999) {
            return NO;
        }
        for (int k = 0; k < n; k++) {
            if (k >= numbers.size() || numbers.get(k) != image.allWays(image.day + k, 0).size()) {
                return 1 + k;
            }
        }
        return numbers.size() == n ? 0 : 1 + n;
    }
}
