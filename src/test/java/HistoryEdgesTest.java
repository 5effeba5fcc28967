/** The edges of the history: promises 23 to 26. */
public final class HistoryEdgesTest {
    private static final int NONE = LogKeepers.NONE;
    private static final int MIN = Integer.MIN_VALUE;
    private static final int MAX = Integer.MAX_VALUE;
    private static final Check CHECK = new Check("HistoryEdgesTest");

    public static void main(String[] args) {
        empty();
        times();
        whats();
        nineAtMost();
        hushEmpties();
        refusedNotesChangeNothing();
        oneCommand();
        answersOfEachWhat();
        cellIsZeroAtFirst();
        endedAheadOfBegun();
        firstByNumbers();
        orderRange();
        orderOfWrongOne();
        judgedAnew();
        allNine();
        staysThroughOthers();
        CHECK.finish();
    }

    private static void due(String what, long got, long want) {
        CHECK.due(what, got, want);
    }

    private static void order(Counted x, int... want) {
        due("25 right", x.judge(), 1);
        for (int i = 0; i < want.length; i++) {
            due("26 order(" + i + ")", x.order(i), want[i]);
        }
        due("26 behind the last", x.order(want.length), NONE);
    }

    private static void wrong(Counted x) {
        due("25 wrong", x.judge(), 0);
        for (int i = -1; i <= 9; i++) {
            due("26 none", x.order(i), NONE);
        }
    }

    private static void empty() {
        Counted x = new Counted();
        due("29 no commands", x.about(5), 0);
        due("24 there were none", x.hush(), 0);
        due("25 an empty one is right", x.judge(), 1);
        due("26 it has none", x.order(0), NONE);
        due("26 nor below", x.order(-1), NONE);
    }

    private static void times() {
        int[][] bad = {{-1, 0}, {-1, -1}, {1, 0}, {9999, 9998}, {0, 10000}, {10000, 10000}, {9999, 10000}, {MIN, 0},
            {0, MAX}, {MIN, MAX}, {0, MIN}, {MAX, MAX}, {MIN, MIN}, {5, -1}};
        Counted x = new Counted();
        for (int[] time : bad) {
            due("23 " + time[0] + " .. " + time[1], x.note(time[0], time[1], 0, 0, 0), NONE);
        }
        due("29 none came", x.about(5), 0);
        int[][] good = {{0, 0}, {0, 9999}, {9999, 9999}, {9998, 9999}, {0, 1}, {7, 7}};
        for (int i = 0; i < good.length; i++) {
            due("23 " + good[i][0] + " .. " + good[i][1], x.note(good[i][0], good[i][1], 1, 0, 0), i);
        }
        due("25 right", x.judge(), 1);
    }

    private static void whats() {
        Counted x = new Counted();
        int[] bad = {-1, 4, 5, MIN, MAX};
        for (int what : bad) {
            due("23 what " + what, x.note(0, 1, what, 0, 0), NONE);
        }
        for (int what = 0; what <= 3; what++) {
            due("23 what " + what, x.note(0, 1, what, MIN, MAX), what);
        }
        due("29 commands", x.about(5), 4);
    }

    private static void nineAtMost() {
        Counted x = new Counted();
        for (int i = 0; i < 9; i++) {
            due("29 commands", x.about(5), i);
            due("23 number", x.note(0, 5, 1, 1, i + 1), i);
        }
        due("23 no tenth", x.note(0, 5, 1, 1, 10), NONE);
        due("29 commands", x.about(5), 9);
        order(x, 0, 1, 2, 3, 4, 5, 6, 7, 8);
    }

    private static void hushEmpties() {
        Counted x = new Counted();
        for (int n = 0; n <= 9; n++) {
            for (int i = 0; i < n; i++) {
                x.note(0, 0, 0, 1, 5);
            }
            due("25 wrong before", x.judge(), n == 0 ? 1 : 0);
            due("24 there were", x.hush(), n);
            due("29 none then", x.about(5), 0);
            due("25 an empty one is right", x.judge(), 1);
            due("26 it has none", x.order(0), NONE);
        }
        due("23 from 0 on", x.note(0, 0, 0, 1, 0), 0);
        order(x, 0);
    }

    private static void refusedNotesChangeNothing() {
        Counted x = new Counted();
        x.note(3, 4, 0, 6, 2);
        x.note(0, 9, 0, 2, 0);
        order(x, 1, 0);
        x.note(-1, 0, 0, 1, 0);
        x.note(0, 0, 4, 1, 0);
        x.note(2, 1, 0, 1, 0);
        order(x, 1, 0);
        due("29 commands", x.about(5), 2);
        for (int i = 2; i < 9; i++) {
            x.note(10, 20, 3, 6, 0);
        }
        order(x, 1, 0, 2, 3, 4, 5, 6, 7, 8);
        due("23 there are 9", x.note(30, 40, 3, 6, 1), NONE);
        order(x, 1, 0, 2, 3, 4, 5, 6, 7, 8);
    }

    private static void one(int what, int value, int answer, int right) {
        Counted x = new Counted();
        x.note(1, 2, what, value, answer);
        due("25 what " + what + " of " + value + " answers " + answer, x.judge(), right);
        due("26 its order", x.order(0), right == 1 ? 0 : NONE);
    }

    private static void oneCommand() {
        one(0, 5, 0, 1);
        one(0, 5, 5, 0);
        one(1, 5, 5, 1);
        one(1, 5, 0, 0);
        one(1, MIN, MIN, 1);
        one(2, 5, 5, 1);
        one(2, 5, 0, 0);
        one(2, 0, 0, 1);
        one(2, -5, 0, 1);
        one(2, -5, -5, 0);
        one(2, MIN, 0, 1);
        one(3, 5, 1, 1);
        one(3, 5, 0, 0);
        one(3, 0, 1, 1);
        one(3, 5, 5, 0);
    }

    /** Behind a command that leaves a cell, one by one: what each then answers. */
    private static void behind(int cell, int what, int value, int answer) {
        for (int off = -1; off <= 1; off++) {
            Counted x = new Counted();
            x.note(0, 1, 0, cell, 0);
            x.note(2, 3, what, value, answer + off);
            due("25 what " + what + " of " + value + " behind " + cell, x.judge(), off == 0 ? 1 : 0);
        }
    }

    private static void answersOfEachWhat() {
        behind(7, 0, 2, 7);
        behind(MIN, 0, 2, MIN);
        behind(7, 1, 2, 9);
        behind(MAX, 1, 1, MIN);
        behind(MIN, 1, -1, MAX);
        behind(MIN, 1, MIN, 0);
        behind(7, 2, 6, 7);
        behind(7, 2, 7, 7);
        behind(7, 2, 8, 8);
        behind(MIN, 2, MAX, MAX);
        behind(MAX, 2, MIN, MAX);
        behind(-3, 2, 0, 0);
        behind(7, 3, 2, 0);
        behind(0, 3, 2, 1);
        behind(-1, 3, 2, 0);
        Counted x = new Counted();
        x.note(0, 0, 3, 4, 1);
        x.note(1, 1, 3, 5, 0);
        x.note(2, 2, 1, 0, 4);
        x.note(3, 3, 2, 3, 4);
        x.note(4, 4, 0, 0, 4);
        x.note(5, 5, 3, 0, 1);
        x.note(6, 6, 3, -8, 1);
        x.note(7, 7, 2, -9, -8);
        order(x, 0, 1, 2, 3, 4, 5, 6, 7);
    }

    private static void cellIsZeroAtFirst() {
        Counted x = new Counted();
        x.note(0, 1, 0, 0, 0);
        x.note(2, 3, 3, 9, 1);
        order(x, 0, 1);
        x.hush();
        x.note(0, 1, 1, 0, 0);
        order(x, 0);
    }

    /** The second one must come first; may it? Its beginning goes from ahead of the first one's end to behind it. */
    private static void endedAheadOfBegun() {
        for (int begun = 4; begun <= 6; begun++) {
            Counted x = new Counted();
            x.note(2, 5, 0, 8, 3);
            x.note(begun, 9, 0, 3, 0);
            if (begun <= 5) {
                order(x, 1, 0);
            } else {
                wrong(x);
            }
        }
        Counted y = new Counted();
        y.note(5, 5, 0, 8, 3);
        y.note(5, 5, 0, 3, 0);
        order(y, 1, 0);
        Counted z = new Counted();
        z.note(9999, 9999, 0, 8, 3);
        z.note(0, 0, 0, 3, 0);
        order(z, 1, 0);
        z.hush();
        z.note(0, 0, 0, 8, 3);
        z.note(9999, 9999, 0, 3, 0);
        wrong(z);
    }

    private static void firstByNumbers() {
        Counted x = new Counted();
        for (int i = 0; i < 9; i++) {
            x.note(0, 9, 2, 0, 0);
        }
        order(x, 0, 1, 2, 3, 4, 5, 6, 7, 8);
        x.hush();
        x.note(6, 9, 2, 0, 0);
        x.note(0, 5, 2, 0, 0);
        x.note(0, 9, 2, 0, 0);
        order(x, 1, 0, 2);
        x.hush();
        x.note(0, 9, 1, 1, 3);
        x.note(0, 9, 1, 1, 2);
        x.note(0, 9, 1, 1, 1);
        x.note(0, 9, 1, 0, 2);
        order(x, 2, 1, 3, 0);
        x.hush();
        x.note(0, 9, 1, 0, 0);
        x.note(0, 9, 1, 5, 5);
        x.note(0, 9, 1, -5, 0);
        x.note(0, 9, 1, 5, 5);
        x.note(0, 9, 1, -5, 0);
        order(x, 0, 1, 2, 3, 4);
    }

    private static void orderRange() {
        Counted x = new Counted();
        x.note(0, 9, 2, 0, 0);
        x.note(0, 9, 2, 0, 0);
        int[] none = {-1, 2, 3, 8, 9, MIN, MAX};
        for (int i : none) {
            due("26 none such", x.order(i), NONE);
        }
        order(x, 0, 1);
    }

    private static void orderOfWrongOne() {
        Counted x = new Counted();
        x.note(0, 9, 0, 1, 4);
        wrong(x);
        x.note(0, 9, 0, 4, 0);
        order(x, 1, 0);
        x.note(0, 9, 0, 4, 5);
        wrong(x);
    }

    /** order() without judge() before, and both behind each change. */
    private static void judgedAnew() {
        Counted x = new Counted();
        x.note(0, 9, 1, 1, 2);
        due("26 not right", x.order(0), NONE);
        x.note(0, 9, 1, 1, 1);
        due("26 right then", x.order(0), 1);
        due("26 right then", x.order(1), 0);
        x.note(0, 9, 1, 1, 1);
        due("26 wrong then", x.order(0), NONE);
        x.hush();
        x.note(0, 9, 1, 1, 1);
        due("26 right then", x.order(0), 0);
    }

    private static void allNine() {
        Counted x = new Counted();
        for (int i = 0; i < 9; i++) {
            x.note(0, 9, 1, 1, 9 - i);
        }
        order(x, 8, 7, 6, 5, 4, 3, 2, 1, 0);
        x.hush();
        for (int i = 0; i < 9; i++) {
            x.note(0, 9, 1, i, i == 4 ? 1000 : 0);
        }
        wrong(x);
        x.hush();
        for (int i = 0; i < 9; i++) {
            x.note(90 - 10 * i, 95 - 10 * i, 0, i, i == 8 ? 0 : i + 1);
        }
        order(x, 8, 7, 6, 5, 4, 3, 2, 1, 0);
    }

    private static void staysThroughOthers() {
        Counted x = new Counted();
        x.note(0, 9, 1, 1, 2);
        x.note(0, 9, 1, 1, 1);
        Check.lay(x, "keeper a;");
        x.keepers();
        due("4 the history stays", x.about(5), 2);
        order(x, 1, 0);
        x.image(0);
        x.note(0, 9, 1, 1, 3);
        x.back(0);
        due("28 the history is not kept", x.about(5), 3);
        order(x, 1, 0, 2);
        Check.lay(x, "!");
        x.keepers();
        due("4 the history stays", x.about(5), 3);
        x.hush();
        x.back(0);
        due("28 nor does it come back", x.about(5), 0);
    }
}
