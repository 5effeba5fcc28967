import java.util.Arrays;
import java.util.Random;

/** Long random runs, each answer against the model, all that can be looked at against it now and then. */
public final class ModelTest {
    private static final int RUNS = 3000;
    private static final int CALLS = 500;

    private final Random random;
    private final Check check;
    private final int run;
    private LogKeepers x;
    private Model m;
    private final Model[] boxes = new Model[3];
    private int[] seen = new int[16];

    private ModelTest(int run, Check check) {
        this.run = run;
        this.check = check;
        random = new Random(run);
    }

    public static void main(String[] args) {
        Check check = new Check("ModelTest");
        int[] seen = new int[16];
        for (int run = 0; run < RUNS; run++) {
            ModelTest test = new ModelTest(run, check);
            test.go();
            for (int i = 0; i < seen.length; i++) {
                seen[i] += test.seen[i];
            }
        }
        System.out.println("ModelTest: letters of each kind, good reads, done entries, foldings taken, noes: "
                + Arrays.toString(seen));
        for (int i = 0; i < 9; i++) {
            check.due("runs that reach case " + i + " are too few", seen[i] > 100, true);
        }
        check.finish();
    }

    private void due(String what, long got, long want) {
        check.due("run " + run + ": " + what, got, want);
    }

    private void go() {
        int n = 1 + random.nextInt(7);
        boolean[] voters = new boolean[n];
        StringBuilder text = new StringBuilder();
        for (int i = 0; i < n; i++) {
            voters[i] = i == 0 || random.nextInt(4) != 0;
            text.append("keeper ").append((char) ('a' + i)).append(voters[i] ? ";" : " silent;");
        }
        x = Check.made(text.toString());
        m = new Model(voters);
        int temper = random.nextInt(4);
        for (int call = 0; call < CALLS; call++) {
            step(temper);
            if (call % 7 == 0 || call == CALLS - 1) {
                lookAtAll();
            }
        }
    }

    private int keeper() {
        return random.nextInt(40) == 0 ? random.nextInt(10) - 1 : random.nextInt(m.keepers.size());
    }

    private int leader() {
        for (int i = 0; i < 4; i++) {
            int k = keeper();
            if (m.leader(k) != null) {
                return k;
            }
        }
        return keeper();
    }

    private int slot() {
        if (random.nextInt(40) == 0) {
            return random.nextInt(44) - 2;
        }
        int start = random.nextInt(40);
        for (int i = 0; i < 40; i++) {
            if (m.full((start + i) % 40)) {
                return (start + i) % 40;
            }
        }
        return start;
    }

    private void step(int temper) {
        int dice = random.nextInt(100);
        if (dice < 1 || dice < 2 + 2 * temper && noLeader()) {
            int k = keeper();
            due("ask", x.ask(k), m.ask(k));
        } else if (dice < 53) {
            deliver();
        } else if (dice < 54 + temper / 2) {
            int s = slot();
            due("drop", x.drop(s), m.drop(s));
        } else if (dice < 57 + temper) {
            int s = slot();
            due("twice", x.twice(s), m.twice(s));
        } else if (dice < 70) {
            command();
        } else if (dice < 86) {
            int k = leader();
            int to = keeper();
            due("append", x.append(k, to), m.append(k, to));
        } else if (dice < 89) {
            int k = keeper();
            Model.Keeper it = m.at(k);
            int entry = it == null ? 1 : it.folded + random.nextInt(Math.max(1, it.done - it.folded + 2));
            due("fold", x.fold(k, entry), m.fold(k, entry));
        } else if (dice < 92) {
            int k = leader();
            int cell = random.nextInt(10) - 1;
            due("read", x.read(k, cell), m.read(k, cell));
        } else if (dice < 93 && random.nextInt(4) <= temper) {
            int k = keeper();
            check.due("run " + run + ": fall", x.fall(k), m.fall(k));
        } else if (dice < 97) {
            int k = keeper();
            check.due("run " + run + ": rise", x.rise(k), m.rise(k));
        } else if (dice < 98) {
            imageOrBack();
        } else {
            int read = random.nextInt(42) - 1;
            int good = m.good(read);
            seen[5] += good == Model.GAP ? 0 : 1;
            due("good", x.good(read), good);
        }
    }

    private boolean noLeader() {
        for (int i = 0; i < m.keepers.size(); i++) {
            if (m.leader(i) != null) {
                return false;
            }
        }
        return true;
    }

    private void deliver() {
        int s = slot();
        if (m.full(s)) {
            Model.Letter l = m.post[s];
            seen[l.kind]++;
            seen[8] += l.kind == 3 && l.a == 0 ? 1 : 0;
            int folded = m.at(l.to).folded;
            due("deliver", x.deliver(s), m.deliver(s));
            seen[7] += m.at(l.to).folded > folded ? 1 : 0;
        } else {
            due("deliver", x.deliver(s), m.deliver(s));
        }
    }

    private void command() {
        int k = leader();
        int client = random.nextInt(30) == 0 ? random.nextInt(20) - 7 : random.nextInt(6);
        int number = random.nextInt(30) == 0 ? random.nextInt(110) - 5 : 1 + random.nextInt(25);
        int what = random.nextInt(30) == 0 ? random.nextInt(9) - 3 : random.nextInt(4);
        int cell = random.nextInt(30) == 0 ? random.nextInt(20) - 6 : random.nextInt(8);
        int value = random.nextInt(10) == 0 ? random.nextInt() : random.nextInt(9) - 4;
        due("command", x.command(k, client, number, what, cell, value), m.command(k, client, number, what, cell, value));
    }

    private void imageOrBack() {
        int box = random.nextInt(5) - 1;
        boolean there = box >= 0 && box < 3;
        if (random.nextBoolean()) {
            due("image", x.image(box), there ? m.letters() : Model.NONE);
            if (there) {
                boxes[box] = m.copy();
            }
        } else {
            boolean kept = there && boxes[box] != null;
            if (kept) {
                m = boxes[box].copy();
            }
            due("back", x.back(box), kept ? m.letters() : Model.NONE);
        }
    }

    private void lookAtAll() {
        for (int k = 0; k < m.keepers.size(); k++) {
            lookAt(k);
        }
        for (int s = 0; s < 40; s++) {
            Model.Letter l = m.post[s];
            int[] want = new int[9];
            Arrays.fill(want, Model.NONE);
            if (l != null) {
                want = new int[] {l.kind, l.from, l.to, l.term, l.a, l.b, l.entries.size(), l.done, l.round};
            }
            for (int what = 0; what < 9; what++) {
                due("slot(" + s + ", " + what + ")", x.slot(s, what), want[what]);
            }
        }
        due("letters", x.about(3), m.letters());
        due("reads", x.about(4), m.reads.size());
        for (int read = 0; read < m.reads.size(); read++) {
            due("good(" + read + ")", x.good(read), m.good(read));
        }
    }

    private void lookAt(int k) {
        Model.Keeper it = m.at(k);
        int ballots = it.role == 0 ? 0 : it.ballots;
        int round = it.role == 2 ? it.round : 0;
        int[] want = {it.term, it.vote, it.role, it.folded, it.last(), it.done, it.fallen ? 1 : 0, ballots, round,
            it.voter ? 1 : 0};
        for (int what = 0; what < want.length; what++) {
            due("keeper(" + k + ", " + what + ")", x.keeper(k, what), want[what]);
        }
        seen[6] += it.done;
        for (int n = Math.max(0, it.folded - 1); n <= it.last() + 1; n++) {
            Model.Entry e = n > it.folded && n <= it.last() ? it.log.get(n) : null;
            due("entry(" + k + ", " + n + ", 0)", x.entry(k, n, 0), e == null ? Model.GAP : e.term);
            due("entry(" + k + ", " + n + ", 2)", x.entry(k, n, 2), e == null ? Model.GAP : e.number);
            due("entry(" + k + ", " + n + ", 5)", x.entry(k, n, 5), e == null ? Model.GAP : e.value);
        }
        int[] state = it.stateAt(it.done);
        for (int cell = 0; cell < 8; cell++) {
            due("state(" + k + ", " + cell + ")", x.state(k, cell), state[cell]);
        }
        for (int client = 0; client < 6; client++) {
            due("client(" + k + ", " + client + ", 0)", x.client(k, client, 0), state[8 + client]);
            due("client(" + k + ", " + client + ", 1)", x.client(k, client, 1), state[14 + client]);
        }
        for (int other = 0; other < m.keepers.size(); other++) {
            boolean leads = m.leader(k) != null && other != k;
            due("peer(" + k + ", " + other + ", 0)", x.peer(k, other, 0), leads ? it.next[other] : Model.NONE);
            due("peer(" + k + ", " + other + ", 1)", x.peer(k, other, 1), leads ? it.sure[other] : Model.NONE);
            due("peer(" + k + ", " + other + ", 2)", x.peer(k, other, 2), leads ? it.answered[other] : Model.NONE);
        }
    }
}
