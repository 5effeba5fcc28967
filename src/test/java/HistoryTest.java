import java.util.Random;

/** Random histories against a plain trial of every order. */
public final class HistoryTest {
    private final int[][] notes = new int[9][];
    private final int[] order = new int[9];
    private final boolean[] used = new boolean[9];
    private int size;

    public static void main(String[] args) {
        Check check = new Check("HistoryTest");
        Random random = new Random(7);
        int right = 0;
        Counted x = new Counted();
        for (int run = 0; run < 60000; run++) {
            HistoryTest test = new HistoryTest();
            int size = run % 50 == 0 ? 9 : random.nextInt(7);
            test.make(random, size);
            if (x.left() < 40) {
                x = new Counted();
            }
            check.due("run " + run + ": hush", x.hush() >= 0, true);
            for (int i = 0; i < size; i++) {
                int[] n = test.notes[i];
                check.due("run " + run + ": note", x.note(n[0], n[1], n[2], n[3], n[4]), i);
            }
            boolean could = test.search(0, 0);
            right += could ? 1 : 0;
            if (run % 2 == 0) {
                check.due("run " + run + ": judge", x.judge(), could ? 1 : 0);
            }
            for (int i = -1; i <= size; i++) {
                int want = could && i >= 0 && i < size ? test.order[i] : LogKeepers.NONE;
                check.due("run " + run + ": order(" + i + ")", x.order(i), want);
            }
            check.due("run " + run + ": judge", x.judge(), could ? 1 : 0);
        }
        check.due("right ones are too few", right > 10000, true);
        check.due("wrong ones are too few", right < 50000, true);
        check.finish();
    }

    /** A history that could have been, noted in another order, and spoiled now and then. */
    private void make(Random random, int newSize) {
        size = newSize;
        int cell = 0;
        int[] place = new int[size];
        for (int i = 0; i < size; i++) {
            place[i] = i;
        }
        for (int i = size - 1; i > 0; i--) {
            int j = random.nextInt(i + 1);
            int swap = place[i];
            place[i] = place[j];
            place[j] = swap;
        }
        int reach = 1 + random.nextInt(60);
        for (int i = 0; i < size; i++) {
            int what = random.nextInt(4);
            int value = random.nextInt(5) - 2;
            int[] after = after(what, cell, value);
            cell = after[0];
            int begun = Math.max(0, 10 * i - random.nextInt(reach));
            int ended = 10 * i + random.nextInt(reach);
            notes[place[i]] = new int[] {begun, Math.max(begun, ended), what, value, after[1]};
        }
        if (size > 0 && random.nextInt(3) == 0) {
            notes[random.nextInt(size)][4] += random.nextInt(3) - 1;
        }
    }

    private static int[] after(int what, int cell, int value) {
        switch (what) {
            case 0:
                return new int[] {value, cell};
            case 1:
                return new int[] {cell + value, cell + value};
            case 2:
                return new int[] {Math.max(cell, value), Math.max(cell, value)};
            default:
                return new int[] {cell == 0 ? value : cell, cell == 0 ? 1 : 0};
        }
    }

    private boolean search(int depth, int cell) {
        if (depth == size) {
            return true;
        }
        for (int i = 0; i < size; i++) {
            if (used[i] || !mayCome(i)) {
                continue;
            }
            int[] after = after(notes[i][2], cell, notes[i][3]);
            if (after[1] != notes[i][4]) {
                continue;
            }
            used[i] = true;
            order[depth] = i;
            boolean found = search(depth + 1, after[0]);
            used[i] = false;
            if (found) {
                return true;
            }
        }
        return false;
    }

    private boolean mayCome(int i) {
        for (int j = 0; j < size; j++) {
            if (!used[j] && notes[j][1] < notes[i][0]) {
                return false;
            }
        }
        return true;
    }
}
