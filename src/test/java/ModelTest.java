import java.util.Arrays;
import java.util.Random;

/** Long random runs, each answer against the model: acts, and looks at one thing or another. */
public final class ModelTest {
    private static final int RUNS = 24000;

    private final Random random;
    private final Check check;
    private final int run;
    private Counted x;
    private Model m;
    private final Model[] boxes = new Model[3];
    private int[] seen = new int[10];

    private ModelTest(int run, Check check) {
        this.run = run;
        this.check = check;
        random = new Random(run);
    }

    public static void main(String[] args) {
        Check check = new Check("ModelTest");
        int[] seen = new int[10];
        for (int run = 0; run < RUNS; run++) {
            ModelTest test = new ModelTest(run, check);
            test.go();
            for (int i = 0; i < seen.length; i++) {
                seen[i] += test.seen[i];
            }
        }
        System.out.println("ModelTest: letters of each kind, good reads, done entries, foldings taken, noes, reads that"
                + " only late answers speak for: " + Arrays.toString(seen));
        for (int i = 0; i < seen.length; i++) {
            check.due("runs that reach case " + i + " are too few", seen[i] > 100, true);
        }
        check.finish();
    }

    private void due(String what, long got, long want) {
        check.due("run " + run + ": " + what, got, want);
    }

    private void go() {
        // Few voters, of which the one that leads falls often: its rounds are answered in later terms, too.
        boolean restless = run % 4 == 0;
        int n = restless ? 2 + random.nextInt(3) : 1 + random.nextInt(7);
        boolean[] voters = new boolean[n];
        StringBuilder text = new StringBuilder();
        for (int i = 0; i < n; i++) {
            voters[i] = i == 0 || random.nextInt(4) != 0;
            text.append("keeper ").append((char) ('a' + i)).append(voters[i] ? ";" : " silent;");
        }
        x = Check.made(text.toString());
        m = new Model(voters);
        int temper = random.nextInt(4);
        int looks = 1 + random.nextInt(4);
        while (x.left() > 0) {
            if (random.nextInt(10) < looks) {
                look();
            } else if (restless && random.nextInt(3) == 0) {
                restlessStep();
            } else {
                step(temper);
            }
            m.remember();
        }
    }

    private int keeper() {
        return random.nextInt(40) == 0 ? random.nextInt(10) - 1 : random.nextInt(m.keepers.size());
    }

    private int leader() {
        for (int i = 0; i < 4; i++) {
            int k = keeper();
            if (m.leader(k) != null) {
                return k;
            }
        }
        return keeper();
    }

    private int slot() {
        if (random.nextInt(40) == 0) {
            return random.nextInt(44) - 2;
        }
        int start = random.nextInt(40);
        for (int i = 0; i < 40; i++) {
            if (m.full((start + i) % 40)) {
                return (start + i) % 40;
            }
        }
        return start;
    }

    private void step(int temper) {
        int dice = random.nextInt(100);
        if (dice < 1 || dice < 2 + 2 * temper && noLeader()) {
            int k = keeper();
            due("ask", x.ask(k), m.ask(k));
        } else if (dice < 53) {
            deliver();
        } else if (dice < 54 + temper / 2) {
            int s = slot();
            due("drop", x.drop(s), m.drop(s));
        } else if (dice < 57 + temper) {
            int s = slot();
            due("twice", x.twice(s), m.twice(s));
        } else if (dice < 70) {
            command();
        } else if (dice < 86) {
            int k = leader();
            int to = keeper();
            due("append", x.append(k, to), m.append(k, to));
        } else if (dice < 89) {
            int k = keeper();
            Model.Keeper it = m.at(k);
            int entry = it == null ? 1 : it.folded + random.nextInt(Math.max(1, it.done - it.folded + 2));
            due("fold", x.fold(k, entry), m.fold(k, entry));
        } else if (dice < 92) {
            int k = leader();
            int cell = random.nextInt(10) - 1;
            due("read", x.read(k, cell), m.read(k, cell));
        } else if (dice < 93 && random.nextInt(4) <= temper) {
            int k = keeper();
            check.due("run " + run + ": fall", x.fall(k), m.fall(k));
        } else if (dice < 97) {
            int k = keeper();
            check.due("run " + run + ": rise", x.rise(k), m.rise(k));
        } else if (dice < 98) {
            imageOrBack();
        } else {
            good(random.nextInt(42) - 1);
        }
    }

    private void restlessStep() {
        int dice = random.nextInt(20);
        if (dice < 2) {
            leadAnew(leader());
        } else if (dice < 8) {
            int k = leader();
            int to = keeper();
            due("append", x.append(k, to), m.append(k, to));
        } else if (dice < 11) {
            int k = leader();
            int cell = random.nextInt(8);
            due("read", x.read(k, cell), m.read(k, cell));
        } else {
            // The latest reads are those that may be good.
            good(m.reads.size() - 1 - random.nextInt(3));
        }
    }

    /** One that leads falls, rises, asks and is voted for at once, while its older letters are under way. */
    private void leadAnew(int k) {
        if (m.leader(k) == null || x.left() < 30) {
            return;
        }
        check.due("run " + run + ": fall", x.fall(k), m.fall(k));
        check.due("run " + run + ": rise", x.rise(k), m.rise(k));
        due("ask", x.ask(k), m.ask(k));
        for (int kind = 0; kind < 2; kind++) {
            for (int slot = 0; slot < 40 && x.left() > 0; slot++) {
                if (m.full(slot) && m.post[slot].kind == kind && m.post[slot].term == m.at(k).term) {
                    due("deliver", x.deliver(slot), m.deliver(slot));
                }
            }
        }
    }

    private void good(int read) {
        int good = m.good(read);
        seen[5] += good == Model.GAP ? 0 : 1;
        seen[9] += good == Model.GAP && goodByNumbers(read) ? 1 : 0;
        due("good", x.good(read), good);
        if (good != Model.GAP) {
            int[] r = m.reads.get(read);
            boolean knows = x.left() == 0 || x.keeper(r[0], 5) >= r[5];
            check.due("run " + run + ": a good read knows all that was done ahead of it", knows, true);
        }
    }

    /** Whether rounds that were answered speak for a read by their numbers, whatever their terms are. */
    private boolean goodByNumbers(int read) {
        if (read < 0 || read >= m.reads.size()) {
            return false;
        }
        int[] r = m.reads.get(read);
        Model.Keeper it = m.leader(r[0]);
        if (it == null || it.term != r[2]) {
            return false;
        }
        int heard = 0;
        for (int i = 0; i < m.keepers.size(); i++) {
            heard += m.at(i).voter && (i == r[0] || it.answered[i] > r[4]) ? 1 : 0;
        }
        return m.most(heard);
    }

    private boolean noLeader() {
        for (int i = 0; i < m.keepers.size(); i++) {
            if (m.leader(i) != null) {
                return false;
            }
        }
        return true;
    }

    private void deliver() {
        int s = slot();
        if (m.full(s)) {
            Model.Letter l = m.post[s];
            seen[l.kind]++;
            seen[8] += l.kind == 3 && l.a == 0 ? 1 : 0;
            int folded = m.at(l.to).folded;
            due("deliver", x.deliver(s), m.deliver(s));
            seen[7] += m.at(l.to).folded > folded ? 1 : 0;
        } else {
            due("deliver", x.deliver(s), m.deliver(s));
        }
    }

    private void command() {
        int k = leader();
        int client = random.nextInt(30) == 0 ? random.nextInt(20) - 7 : random.nextInt(6);
        int number = random.nextInt(30) == 0 ? random.nextInt(110) - 5 : 1 + random.nextInt(25);
        int what = random.nextInt(30) == 0 ? random.nextInt(9) - 3 : random.nextInt(4);
        int cell = random.nextInt(30) == 0 ? random.nextInt(20) - 6 : random.nextInt(8);
        int value = random.nextInt(10) == 0 ? random.nextInt() : random.nextInt(9) - 4;
        due("command", x.command(k, client, number, what, cell, value), m.command(k, client, number, what, cell, value));
    }

    private void imageOrBack() {
        int box = random.nextInt(5) - 1;
        boolean there = box >= 0 && box < 3;
        if (random.nextBoolean()) {
            due("image", x.image(box), there ? m.letters() : Model.NONE);
            if (there) {
                boxes[box] = m.copy();
            }
        } else {
            boolean kept = there && boxes[box] != null;
            if (kept) {
                m = boxes[box].copy();
            }
            due("back", x.back(box), kept ? m.letters() : Model.NONE);
        }
    }

    private void look() {
        int k = random.nextInt(m.keepers.size());
        switch (random.nextInt(6)) {
            case 0:
                lookAtKeeper(k, random.nextInt(10));
                break;
            case 1:
                lookAtEntry(k, random.nextInt(6));
                break;
            case 2:
                lookAtState(k, random.nextInt(20));
                break;
            case 3:
                lookAtPeer(k, random.nextInt(m.keepers.size()), random.nextInt(3));
                break;
            case 4:
                lookAtSlot(slot(), random.nextInt(9));
                break;
            default:
                lookAtNumbers(random.nextInt(8));
                break;
        }
    }

    private void lookAtKeeper(int k, int what) {
        Model.Keeper it = m.at(k);
        int ballots = it.role == 0 ? 0 : it.ballots;
        int round = it.role == 2 ? it.round : 0;
        int[] want = {it.term, it.vote, it.role, it.folded, it.last(), it.done, it.fallen ? 1 : 0, ballots, round,
            it.voter ? 1 : 0};
        seen[6] += it.done;
        due("keeper(" + k + ", " + what + ")", x.keeper(k, what), want[what]);
    }

    private void lookAtEntry(int k, int what) {
        Model.Keeper it = m.at(k);
        int n = it.folded - 1 + random.nextInt(it.last() - it.folded + 3);
        Model.Entry e = n > it.folded && n <= it.last() ? it.log.get(n) : null;
        int want = Model.GAP;
        if (e != null) {
            want = new int[] {e.term, e.client, e.number, e.what, e.cell, e.value}[what];
        }
        due("entry(" + k + ", " + n + ", " + what + ")", x.entry(k, n, what), want);
    }

    private void lookAtState(int k, int part) {
        Model.Keeper it = m.at(k);
        int want = it.stateAt(it.done)[part];
        if (part < 8) {
            due("state(" + k + ", " + part + ")", x.state(k, part), want);
        } else {
            int client = (part - 8) % 6;
            int what = (part - 8) / 6;
            due("client(" + k + ", " + client + ", " + what + ")", x.client(k, client, what), want);
        }
    }

    private void lookAtPeer(int k, int other, int what) {
        Model.Keeper it = m.at(k);
        int want = Model.NONE;
        if (m.leader(k) != null && other != k) {
            want = new int[] {it.next[other], it.sure[other], it.answered[other]}[what];
        }
        due("peer(" + k + ", " + other + ", " + what + ")", x.peer(k, other, what), want);
    }

    private void lookAtSlot(int slot, int what) {
        int want = Model.NONE;
        if (m.full(slot)) {
            Model.Letter l = m.post[slot];
            want = new int[] {l.kind, l.from, l.to, l.term, l.a, l.b, l.entries.size(), l.done, l.round}[what];
        }
        due("slot(" + slot + ", " + what + ")", x.slot(slot, what), want);
    }

    private void lookAtNumbers(int what) {
        int up = 0;
        for (Model.Keeper it : m.keepers) {
            up += it.fallen ? 0 : 1;
        }
        int voters = m.voters();
        int[] want = {m.keepers.size(), voters, (voters + 2) / 2, m.letters(), m.reads.size(), 0, 0, up};
        due("about(" + what + ")", x.about(what), want[what]);
    }
}
