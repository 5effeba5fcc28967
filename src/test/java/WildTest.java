import java.util.Random;

/** Calls with any arguments in any state: none throws; entries that are done are the same with all keepers. */
public final class WildTest {
    private static final int[] ODD = {Integer.MIN_VALUE, Integer.MIN_VALUE + 1, -1000000, -2, -1, 0, 1, 2, 3, 4, 5, 6, 7,
        8, 9, 10, 39, 40, 41, 99, 100, 400, 401, 9999, 10000, Integer.MAX_VALUE - 1, Integer.MAX_VALUE};
    private static final String[] TEXTS = {"keeper a;keeper b;keeper c;", "keeper a;", "keeper a;keeper b silent;",
        "keeper a;keeper b;keeper c;keeper d;keeper e;keeper f;keeper g;", "keeper a"};

    private static final int LOOKS = 80;

    private final Random random;
    private final Counted x = new Counted();

    private WildTest(int seed) {
        random = new Random(seed);
    }

    public static void main(String[] args) {
        Check check = new Check("WildTest");
        for (int run = 0; run < 3000; run++) {
            try {
                check.due("run " + run + ": what is done parts", agree(run), true);
            } catch (RuntimeException thrown) {
                check.due("run " + run + " threw " + thrown, 1, 0);
            }
        }
        check.finish();
    }

    private int any() {
        return random.nextInt(4) == 0 ? ODD[random.nextInt(ODD.length)] : random.nextInt(8);
    }

    private void step() {
        switch (random.nextInt(34)) {
            case 0:
                x.feed(any(), any(), any(), any(), any());
                break;
            case 1:
                x.end(any());
                break;
            case 2:
                if (random.nextInt(8) == 0) {
                    x.end(0);
                    Check.lay(x, TEXTS[random.nextInt(TEXTS.length)]);
                    x.keepers();
                }
                break;
            case 3:
                x.fault(any());
                break;
            case 4:
                x.ask(any());
                break;
            case 5:
            case 6:
            case 7:
            case 8:
                x.deliver(any());
                break;
            case 9:
                x.drop(any());
                break;
            case 10:
                x.twice(any());
                break;
            case 11:
                x.fall(any());
                break;
            case 12:
                x.rise(any());
                break;
            case 13:
            case 14:
                x.command(any(), any(), any(), any(), any(), any());
                break;
            case 15:
            case 16:
            case 17:
                x.append(any(), any());
                break;
            case 18:
                x.fold(any(), any());
                break;
            case 19:
                x.read(any(), any());
                break;
            case 20:
                x.good(any());
                break;
            default:
                look();
                break;
        }
    }

    private void look() {
        switch (random.nextInt(14)) {
            case 0:
                x.keeper(any(), any());
                break;
            case 1:
                x.entry(any(), any(), any());
                break;
            case 2:
                x.state(any(), any());
                break;
            case 3:
                x.client(any(), any(), any());
                break;
            case 4:
                x.peer(any(), any(), any());
                break;
            case 5:
                x.slot(any(), any());
                break;
            case 6:
                x.note(any(), any(), any(), any(), any());
                break;
            case 7:
                if (random.nextInt(9) == 0) {
                    x.hush();
                }
                break;
            case 8:
                x.judge();
                break;
            case 9:
                x.order(any());
                break;
            case 10:
                x.image(any());
                break;
            case 11:
                x.back(any());
                break;
            case 12:
                x.about(any());
                break;
            default:
                x.command(0, 1, 1 + random.nextInt(99), 1, 1, any());
                break;
        }
    }

    private void go() {
        while (x.left() > LOOKS + 25) {
            step();
        }
    }

    /** Whether keepers have the same terms of entries that are done; each is looked at behind the same run, made anew. */
    private static boolean agree(int run) {
        int[] terms = new int[LOOKS];
        int keepers = 1;
        for (int k = 0; k < keepers; k++) {
            WildTest test = new WildTest(run);
            test.go();
            keepers = test.x.about(0);
            int done = test.x.keeper(k, 5);
            for (int entry = 1; entry <= done && entry < LOOKS - 2; entry++) {
                int term = test.x.entry(k, entry, 0);
                if (term != LogKeepers.GAP && terms[entry] != 0 && terms[entry] != term) {
                    return false;
                }
                terms[entry] = term == LogKeepers.GAP ? terms[entry] : term;
            }
        }
        return true;
    }
}
