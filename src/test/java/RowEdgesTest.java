/** The edges of what a keeper has: entries, room, fold, state; promises 10 to 12, 14, 17 to 20. */
public final class RowEdgesTest {
    private static final int NONE = LogKeepers.NONE;
    private static final int GAP = LogKeepers.GAP;
    private static final int MIN = Integer.MIN_VALUE;
    private static final int MAX = Integer.MAX_VALUE;
    private static final int[] FAR = {MIN, MIN + 1, -1000000, -2, MAX - 1, MAX};
    private static final Check CHECK = new Check("RowEdgesTest");

    public static void main(String[] args) {
        asAtFirst();
        rangesOfEntry();
        valuesAreAny();
        roomOfForty();
        roomBehindFolded();
        roomOfFollower();
        lastIsFoldedIfNoneBehind();
        countsAboveLatest();
        whatChangesNothingKeepsAll();
        whatZero();
        whatOne();
        whatTwo();
        whatThree();
        foldRange();
        foldOfEachRole();
        foldIsSaved();
        fallToFolded();
        riseAndFallOfEach();
        entryLooks();
        stateLooks();
        clientLooks();
        keeperLooks();
        CHECK.finish();
    }

    private static void due(String what, long got, long want) {
        CHECK.due(what, got, want);
    }

    private static void due(String what, boolean got, boolean want) {
        CHECK.due(what, got, want);
    }

    private static Counted alone() {
        return Check.led(1);
    }

    private static void asAtFirst() {
        Counted x = Check.made("keeper a;keeper b silent;");
        int[] first = {0, NONE, 0, 0, 0, 0, 0, 0, 0};
        for (int k = 0; k < 2; k++) {
            for (int what = 0; what < first.length; what++) {
                due("17 keeper(" + k + ", " + what + ") at first", x.keeper(k, what), first[what]);
            }
            for (int cell = 0; cell < 8; cell++) {
                due("19 a cell at first", x.state(k, cell), 0);
            }
            for (int client = 0; client < 6; client++) {
                due("20 the latest number at first", x.client(k, client, 0), 0);
                due("20 its answer at first", x.client(k, client, 1), 0);
            }
            due("18 no entry 0", x.entry(k, 0, 0), GAP);
            due("18 no entry 1", x.entry(k, 1, 0), GAP);
        }
    }

    /** An entry that fits but for one part; the part takes from least to most. */
    private static void range(String name, int part, int least, int most) {
        Counted x = alone();
        int[] parts = {2, 50, 1, 3};
        int numbers = 0;
        int[] near = {least - 1, least, least + 1, most - 1, most, most + 1};
        for (int value : near) {
            parts[part] = value;
            boolean fits = value >= least && value <= most;
            numbers += fits ? 1 : 0;
            due("12 " + name + " " + value, x.command(0, parts[0], parts[1], parts[2], parts[3], 7), fits ? numbers : NONE);
            due("12 last behind " + name + " " + value, x.keeper(0, 4), numbers);
            due("18 " + name, x.entry(0, numbers, 1 + part), numbers == 0 ? GAP : Math.min(value, most));
        }
        for (int value : FAR) {
            parts[part] = value;
            due("12 " + name + " " + value, x.command(0, parts[0], parts[1], parts[2], parts[3], 7), NONE);
        }
        due("12 none came", x.keeper(0, 4), numbers);
    }

    private static void rangesOfEntry() {
        range("client", 0, 0, 5);
        range("number", 1, 1, 99);
        range("what", 2, 0, 3);
        range("cell", 3, 0, 7);
    }

    private static void valuesAreAny() {
        Counted x = alone();
        int[] values = {0, 1, -1, GAP, NONE, MIN, MAX};
        for (int i = 0; i < values.length; i++) {
            x.command(0, 0, i + 1, 0, 0, values[i]);
            due("18 value", x.entry(0, i + 1, 5), values[i]);
            due("19 cell", x.state(0, 0), values[i]);
        }
    }

    private static void roomOfForty() {
        Counted x = Check.led(2);
        for (int i = 1; i <= 40; i++) {
            due("12 entry " + i, x.command(0, i % 6, 1 + i, 0, i % 8, i), i);
        }
        due("12 no room for a 41st", x.command(0, 0, 99, 0, 0, 0), NONE);
        due("12 last", x.keeper(0, 4), 40);
        due("18 the 1st is there", x.entry(0, 1, 5), 1);
        due("18 the 40th is there", x.entry(0, 40, 5), 40);
        due("18 no 41st", x.entry(0, 41, 5), GAP);
        due("14 nothing is done, so no fold makes room", x.fold(0, 1), NONE);
    }

    private static void roomBehindFolded() {
        Counted x = alone();
        for (int i = 1; i <= 40; i++) {
            x.command(0, 0, i, 1, 0, 1);
        }
        due("12 no room", x.command(0, 0, 41, 1, 0, 1), NONE);
        due("14 one is folded", x.fold(0, 1), 39);
        due("12 room for one", x.command(0, 0, 41, 1, 0, 1), 41);
        due("12 no room for two", x.command(0, 0, 42, 1, 0, 1), NONE);
        due("18 the 2nd is there", x.entry(0, 2, 2), 2);
        due("18 the 41st is there", x.entry(0, 41, 2), 41);
        due("14 all are folded", x.fold(0, 41), 0);
        for (int i = 42; i <= 81; i++) {
            due("12 entry " + i, x.command(0, 0, i, 1, 0, 1), i);
        }
        due("12 no room again", x.command(0, 0, 82, 1, 0, 1), NONE);
        due("19 all of them count", x.state(0, 0), 81);
    }

    /** Keeper 1 has 38 of the leader's 43 entries, and room for two; the leader folded 30. */
    private static Counted nearlyFull() {
        Counted x = Check.led(3);
        for (int i = 1; i <= 38; i++) {
            x.command(0, 0, i, 1, 0, 1);
            if (i % 5 == 0 || i == 38) {
                Check.pass(x, 0, 1);
            }
        }
        x.fold(0, 30);
        for (int i = 39; i <= 43; i++) {
            x.command(0, 0, i, 1, 0, 1);
        }
        return x;
    }

    private static void roomOfFollower() {
        Counted x = nearlyFull();
        due("7 last before", x.keeper(1, 4), 38);
        int slot = x.append(0, 1);
        due("13 five entries are sent", x.slot(slot, 6), 5);
        due("7 it answers", x.deliver(slot), 1);
        due("7 two are added", x.keeper(1, 4), 40);
        due("7 yes", x.slot(slot, 4), 1);
        due("7 the last one added", x.slot(slot, 5), 40);
        due("18 no 41st", x.entry(1, 41, 0), GAP);
        due("7 done is what the letter told", x.keeper(1, 5), 38);
        x.deliver(slot);
        due("7 sure", x.peer(0, 1, 1), 40);
        due("7 done of the leader", x.keeper(0, 5), 40);
        x.append(0, 1);
        due("13 the rest is sent", x.slot(slot, 6), 3);
        x.deliver(slot);
        due("7 none is added", x.keeper(1, 4), 40);
        due("7 ahead is the last one", x.slot(slot, 5), 40);
        due("7 done", x.keeper(1, 5), 40);
        x.drop(slot);
        due("14 room for one", x.fold(1, 1), 39);
        Check.pass(x, 0, 1);
        due("7 one is added", x.keeper(1, 4), 41);
        due("14 room for all", x.fold(1, 40), 1);
        Check.pass(x, 0, 1);
        due("7 all are added", x.keeper(1, 4), 43);
        due("7 done of the leader", x.keeper(0, 5), 43);
    }

    private static void lastIsFoldedIfNoneBehind() {
        Counted x = alone();
        x.command(0, 0, 1, 0, 0, 5);
        x.command(0, 0, 2, 0, 0, 6);
        due("14 none behind", x.fold(0, 2), 0);
        due("17 folded", x.keeper(0, 3), 2);
        due("17 last is folded", x.keeper(0, 4), 2);
        due("17 done", x.keeper(0, 5), 2);
        due("18 none is there", x.entry(0, 2, 0), GAP);
        due("12 the next number", x.command(0, 0, 3, 0, 0, 7), 3);
        due("17 last", x.keeper(0, 4), 3);
        due("18 it is there", x.entry(0, 3, 5), 7);
    }

    private static void client(Counted x, int latest, int answer) {
        due("20 latest", x.client(0, 4, 0), latest);
        due("20 answer", x.client(0, 4, 1), answer);
    }

    private static void countsAboveLatest() {
        Counted x = alone();
        x.command(0, 4, 5, 1, 2, 10);
        client(x, 5, 10);
        x.command(0, 4, 5, 1, 2, 10);
        due("12 the same number does not count", x.state(0, 2), 10);
        x.command(0, 4, 4, 1, 2, 10);
        due("12 a lesser number does not count", x.state(0, 2), 10);
        client(x, 5, 10);
        x.command(0, 4, 6, 1, 2, 10);
        due("12 a greater one counts", x.state(0, 2), 20);
        client(x, 6, 20);
        x.command(0, 4, 99, 1, 2, 10);
        client(x, 99, 30);
        x.command(0, 4, 99, 1, 2, 10);
        x.command(0, 4, 1, 1, 2, 10);
        due("12 behind 99 none counts", x.state(0, 2), 30);
        client(x, 99, 30);
        x.command(0, 3, 1, 1, 2, 10);
        due("12 another client counts by itself", x.state(0, 2), 40);
        due("20 its latest", x.client(0, 3, 0), 1);
        due("20 its answer", x.client(0, 3, 1), 40);
        client(x, 99, 30);
        due("17 those that don't count are done, too", x.keeper(0, 5), 8);
    }

    private static void whatChangesNothingKeepsAll() {
        for (int what = 0; what <= 3; what++) {
            Counted x = alone();
            x.command(0, 4, 7, 0, 2, what == 3 ? 0 : 5);
            int cell = x.state(0, 2);
            int answer = x.client(0, 4, 1);
            x.command(0, 4, 7, what, 2, 9);
            x.command(0, 4, 6, what, 2, 9);
            due("12 the cell stays, what " + what, x.state(0, 2), cell);
            client(x, 7, answer);
        }
    }

    private static void step(Counted x, int what, int value, int cell, int answer) {
        x.command(0, 0, x.client(0, 0, 0) + 1, what, 5, value);
        due("12 what " + what + " of " + value + ": the cell", x.state(0, 5), cell);
        due("12 what " + what + " of " + value + ": the answer", x.client(0, 0, 1), answer);
    }

    private static void whatZero() {
        Counted x = alone();
        step(x, 0, 3, 3, 0);
        step(x, 0, 3, 3, 3);
        step(x, 0, MIN, MIN, 3);
        step(x, 0, 0, 0, MIN);
        step(x, 0, MAX, MAX, 0);
    }

    private static void whatOne() {
        Counted x = alone();
        step(x, 1, 0, 0, 0);
        step(x, 1, MAX, MAX, MAX);
        step(x, 1, 1, MIN, MIN);
        step(x, 1, -1, MAX, MAX);
        step(x, 1, MAX, -2, -2);
        step(x, 1, MIN, MAX - 1, MAX - 1);
        step(x, 1, -5, MAX - 6, MAX - 6);
    }

    private static void whatTwo() {
        Counted x = alone();
        step(x, 2, -1, 0, 0);
        step(x, 2, MIN, 0, 0);
        step(x, 2, 0, 0, 0);
        step(x, 2, 1, 1, 1);
        step(x, 2, 1, 1, 1);
        step(x, 2, MAX, MAX, MAX);
        step(x, 2, MIN, MAX, MAX);
        step(x, 0, MIN, MIN, MAX);
        step(x, 2, MAX, MAX, MAX);
        step(x, 0, -7, -7, MAX);
        step(x, 2, -8, -7, -7);
        step(x, 2, -6, -6, -6);
    }

    private static void whatThree() {
        Counted x = alone();
        step(x, 3, 0, 0, 1);
        step(x, 3, 0, 0, 1);
        step(x, 3, -4, -4, 1);
        step(x, 3, 9, -4, 0);
        step(x, 3, 0, -4, 0);
        step(x, 1, 4, 0, 0);
        step(x, 3, MIN, MIN, 1);
        step(x, 1, MIN, 0, 0);
        step(x, 3, 1, 1, 1);
        step(x, 3, 1, 1, 0);
    }

    private static void foldRange() {
        Counted x = Check.led(3);
        for (int i = 1; i <= 6; i++) {
            x.command(0, 0, i, 0, 0, i);
        }
        Check.pass(x, 0, 1);
        due("17 done", x.keeper(0, 5), 5);
        due("14 above done", x.fold(0, 6), NONE);
        due("14 above last", x.fold(0, 7), NONE);
        due("14 0", x.fold(0, 0), NONE);
        due("14 below 0", x.fold(0, -1), NONE);
        for (int far : FAR) {
            due("14 far", x.fold(0, far), NONE);
        }
        due("17 nothing was folded", x.keeper(0, 3), 0);
        due("14 folded + 1", x.fold(0, 1), 5);
        due("14 folded", x.fold(0, 1), NONE);
        due("14 below folded", x.fold(0, 0), NONE);
        due("14 some", x.fold(0, 3), 3);
        due("14 below folded", x.fold(0, 2), NONE);
        due("14 done", x.fold(0, 5), 1);
        due("14 folded is done", x.fold(0, 5), NONE);
        due("17 folded", x.keeper(0, 3), 5);
        due("17 last", x.keeper(0, 4), 6);
        due("18 the one behind", x.entry(0, 6, 5), 6);
    }

    private static void foldOfEachRole() {
        Counted x = Check.made("keeper a;keeper b;keeper c silent;");
        x.ask(0);
        Check.deliverAll(x);
        x.command(0, 0, 1, 0, 0, 4);
        x.command(0, 0, 2, 0, 0, 5);
        Check.pass(x, 0, 1);
        Check.pass(x, 0, 1);
        Check.pass(x, 0, 2);
        due("14 one that follows", x.fold(1, 1), 1);
        due("14 a silent one", x.fold(2, 1), 1);
        x.ask(1);
        due("14 one that asks", x.fold(1, 2), 0);
        due("17 it still asks", x.keeper(1, 2), 1);
        due("17 with its ballot", x.keeper(1, 7), 2);
        due("14 one that leads", x.fold(0, 2), 0);
        due("17 it still leads", x.keeper(0, 2), 2);
        due("21 sure stays", x.peer(0, 1, 1), 2);
        x.fall(2);
        due("14 fallen", x.fold(2, 2), NONE);
        due("14 no such keeper", x.fold(3, 1), NONE);
        due("14 no such keeper", x.fold(-1, 1), NONE);
    }

    private static void foldIsSaved() {
        Counted x = alone();
        x.command(0, 2, 3, 1, 1, 10);
        x.command(0, 2, 4, 1, 1, 10);
        x.command(0, 2, 5, 1, 1, 10);
        x.fold(0, 2);
        due("19 behind what is done", x.state(0, 1), 30);
        due("20 latest", x.client(0, 2, 0), 5);
        x.fall(0);
        due("19 behind the fold", x.state(0, 1), 20);
        due("20 latest behind the fold", x.client(0, 2, 0), 4);
        due("20 answer behind the fold", x.client(0, 2, 1), 20);
        due("18 the entry behind it stays", x.entry(0, 3, 5), 10);
        x.rise(0);
        x.ask(0);
        x.command(0, 2, 6, 1, 1, 10);
        due("17 all are done again", x.keeper(0, 5), 4);
        due("19 each counted once", x.state(0, 1), 40);
    }

    private static void fallToFolded() {
        Counted x = Check.led(3);
        x.command(0, 1, 1, 0, 3, 8);
        Check.pass(x, 0, 1);
        x.append(0, 2);
        due("17 done", x.keeper(0, 5), 1);
        due("10 fall", x.fall(0), true);
        int[] fallen = {1, 0, 0, 0, 1, 0, 1, 0, 0, 1};
        for (int what = 0; what < fallen.length; what++) {
            due("10 keeper(0, " + what + ")", x.keeper(0, what), fallen[what]);
        }
        due("10 the state behind 0", x.state(0, 3), 0);
        due("10 no client there", x.client(0, 1, 0), 0);
        due("10 no answer there", x.client(0, 1, 1), 0);
        due("10 its entry stays", x.entry(0, 1, 5), 8);
        due("10 its letter stays", x.slot(0, 1), 0);
        due("10 the others stay", x.keeper(1, 4), 1);
        due("29 not fallen", x.about(7), 2);
        due("11 rise", x.rise(0), true);
        fallen[6] = 0;
        for (int what = 0; what < fallen.length; what++) {
            due("11 keeper(0, " + what + ")", x.keeper(0, what), fallen[what]);
        }
        due("29 not fallen", x.about(7), 3);
    }

    private static void riseAndFallOfEach() {
        Counted x = Check.made("keeper a;keeper b silent;");
        for (int k = 0; k < 2; k++) {
            due("11 not fallen", x.rise(k), false);
            due("10 fall", x.fall(k), true);
            due("10 fallen already", x.fall(k), false);
            due("29 not fallen", x.about(7), 1 - k);
        }
        for (int k = 0; k < 2; k++) {
            due("11 rise", x.rise(k), true);
            due("11 risen already", x.rise(k), false);
        }
        due("29 all stand", x.about(7), 2);
        int[] none = {-1, 2, 7, MIN, MAX};
        for (int k : none) {
            due("10 no such keeper", x.fall(k), false);
            due("11 no such keeper", x.rise(k), false);
        }
    }

    private static void entryLooks() {
        Counted x = alone();
        for (int i = 1; i <= 4; i++) {
            x.command(0, i, i * 2, i % 4, i + 1, i * 100);
        }
        x.fold(0, 2);
        for (int what = 0; what <= 5; what++) {
            due("18 folded", x.entry(0, 1, what), GAP);
            due("18 folded", x.entry(0, 2, what), GAP);
            due("18 behind last", x.entry(0, 5, what), GAP);
        }
        int[] third = {1, 3, 6, 3, 4, 300};
        int[] fourth = {1, 4, 8, 0, 5, 400};
        for (int what = 0; what <= 5; what++) {
            due("18 part " + what, x.entry(0, 3, what), third[what]);
            due("18 part " + what, x.entry(0, 4, what), fourth[what]);
        }
        int[] none = {-1, 6, MIN, MAX};
        for (int what : none) {
            due("18 another what", x.entry(0, 3, what), GAP);
        }
        int[] noEntry = {0, -1, MIN, MAX, MIN + 3};
        for (int entry : noEntry) {
            due("18 no such entry", x.entry(0, entry, 0), GAP);
        }
        int[] noKeeper = {-1, 1, MIN, MAX};
        for (int k : noKeeper) {
            due("18 no such keeper", x.entry(k, 3, 0), GAP);
        }
    }

    private static void stateLooks() {
        Counted x = alone();
        x.command(0, 0, 1, 0, 0, 11);
        x.command(0, 0, 2, 0, 7, 12);
        due("19 cell 0", x.state(0, 0), 11);
        due("19 cell 7", x.state(0, 7), 12);
        due("19 cell 6", x.state(0, 6), 0);
        int[] none = {-1, 8, MIN, MAX};
        for (int cell : none) {
            due("19 no such cell", x.state(0, cell), GAP);
        }
        int[] noKeeper = {-1, 1, MIN, MAX};
        for (int k : noKeeper) {
            due("19 no such keeper", x.state(k, 0), GAP);
        }
    }

    private static void clientLooks() {
        Counted x = alone();
        x.command(0, 0, 9, 0, 0, 11);
        x.command(0, 5, 8, 1, 0, 1);
        due("20 client 0", x.client(0, 0, 0), 9);
        due("20 its answer", x.client(0, 0, 1), 0);
        due("20 client 5", x.client(0, 5, 0), 8);
        due("20 its answer", x.client(0, 5, 1), 12);
        int[] none = {-1, 6, MIN, MAX};
        for (int client : none) {
            due("20 no such client", x.client(0, client, 0), GAP);
            due("20 no such client", x.client(0, client, 1), GAP);
        }
        int[] noWhat = {-1, 2, MIN, MAX};
        for (int what : noWhat) {
            due("20 another what", x.client(0, 0, what), GAP);
        }
        int[] noKeeper = {-1, 1, MIN, MAX};
        for (int k : noKeeper) {
            due("20 no such keeper", x.client(k, 0, 0), GAP);
        }
    }

    private static void keeperLooks() {
        Counted x = Check.made(7);
        due("17 keeper 6", x.keeper(6, 9), 1);
        int[] none = {-1, 7, 8, MIN, MAX};
        for (int k : none) {
            for (int what = 0; what <= 9; what++) {
                due("17 no such keeper", x.keeper(k, what), -2);
            }
        }
        int[] noWhat = {-1, 10, MIN, MAX};
        for (int what : noWhat) {
            due("17 another what", x.keeper(0, what), -2);
        }
    }
}
