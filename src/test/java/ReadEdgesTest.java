/** The edges of reads: promises 15 and 16. */
public final class ReadEdgesTest {
    private static final int NONE = LogKeepers.NONE;
    private static final int GAP = LogKeepers.GAP;
    private static final Check CHECK = new Check("ReadEdgesTest");

    public static void main(String[] args) {
        whoReads();
        cellsOfReads();
        doneOfItsTerm();
        doneIsFolded();
        fortyAtMost();
        noneSuch();
        mostAnswered();
        silentOnesDontCount();
        roundBehindRead();
        anyAnswerCounts();
        eachReadByItsRound();
        cellAsItIs();
        cellMayBeGap();
        notGoodWhileFallen();
        goneWithItsTerm();
        goneWithLaterTermOfItsOwn();
        readsOfTwoLeaders();
        goneWithKeepers();
        CHECK.finish();
    }

    private static void due(String what, long got, long want) {
        CHECK.due(what, got, want);
    }

    /** Keeper 0 of some voters leads, its entry 1 (cell 2 is 7) is done. */
    private static Counted ready(int voters) {
        Counted x = Check.led(voters);
        x.command(0, 0, 1, 0, 2, 7);
        for (int other = 1; other <= voters / 2; other++) {
            Check.pass(x, 0, other);
        }
        due("17 done", x.keeper(0, 5), 1);
        return x;
    }

    private static void whoReads() {
        Counted x = ready(3);
        due("15 one that follows", x.read(1, 2), NONE);
        x.ask(2);
        due("15 one that asks", x.read(2, 2), NONE);
        int[] none = {-1, 3, 7, Integer.MIN_VALUE, Integer.MAX_VALUE};
        for (int k : none) {
            due("15 none such", x.read(k, 2), NONE);
        }
        due("29 no reads", x.about(4), 0);
        due("15 one that leads", x.read(0, 2), 0);
        x.fall(0);
        due("15 fallen", x.read(0, 2), NONE);
        x.rise(0);
        due("15 risen, it follows", x.read(0, 2), NONE);
        due("29 one read", x.about(4), 1);
    }

    private static void cellsOfReads() {
        Counted x = ready(1);
        int[] none = {-1, 8, 9, Integer.MIN_VALUE, Integer.MAX_VALUE};
        for (int cell : none) {
            due("15 no such cell", x.read(0, cell), NONE);
        }
        due("29 no reads", x.about(4), 0);
        for (int cell = 0; cell <= 7; cell++) {
            due("15 cell " + cell, x.read(0, cell), cell);
            due("16 cell " + cell, x.good(cell), cell == 2 ? 7 : 0);
        }
    }

    private static void doneOfItsTerm() {
        Counted x = Check.led(1);
        due("15 nothing is done", x.read(0, 0), NONE);
        x.command(0, 0, 1, 0, 0, 1);
        due("15 one of its term", x.read(0, 0), 0);
        x.fall(0);
        x.rise(0);
        x.ask(0);
        due("15 nothing is done again", x.read(0, 0), NONE);
        x.command(0, 0, 2, 0, 0, 2);
        due("15 one of its term", x.read(0, 0), 1);
        Counted y = Check.led(3);
        y.command(0, 0, 1, 0, 0, 1);
        due("15 not done", y.read(0, 0), NONE);
        Check.pass(y, 0, 1);
        Check.pass(y, 0, 1);
        due("15 done", y.read(0, 0), 0);
        y.ask(1);
        y.deliver(1);
        y.deliver(1);
        y.drop(0);
        due("17 done of an older term", y.keeper(1, 5), 1);
        due("15 of an older term", y.read(1, 0), NONE);
        y.command(1, 0, 2, 0, 0, 2);
        due("15 its own is not done yet", y.read(1, 0), NONE);
        for (int i = 0; i < 3; i++) {
            Check.pass(y, 1, 2);
        }
        due("15 its own is done", y.read(1, 0), 1);
    }

    private static void doneIsFolded() {
        Counted x = ready(3);
        x.fold(0, 1);
        due("15 the latest one done is folded, of its term", x.read(0, 2), 0);
        x.fall(0);
        x.rise(0);
        x.ask(0);
        Check.deliverAll(x);
        due("17 leads", x.keeper(0, 2), 2);
        due("17 done", x.keeper(0, 5), 1);
        due("15 the latest one done is folded, of an older term", x.read(0, 2), NONE);
    }

    private static void fortyAtMost() {
        Counted x = ready(1);
        for (int i = 0; i < 40; i++) {
            due("29 reads", x.about(4), i);
            due("15 number", x.read(0, i % 8), i);
        }
        due("15 no 41st", x.read(0, 2), NONE);
        due("29 reads", x.about(4), 40);
        due("16 the first", x.good(0), 0);
        due("16 the 35th", x.good(34), 7);
        due("16 the last", x.good(39), 0);
        due("16 no 41st", x.good(40), GAP);
        x.command(0, 0, 2, 0, 7, 3);
        due("16 the last", x.good(39), 3);
    }

    private static void noneSuch() {
        Counted x = ready(1);
        due("16 none", x.good(0), GAP);
        x.read(0, 2);
        due("16 there", x.good(0), 7);
        int[] none = {-1, 1, 39, 40, Integer.MIN_VALUE, Integer.MAX_VALUE};
        for (int read : none) {
            due("16 none such", x.good(read), GAP);
        }
    }

    private static void mostAnswered() {
        int[] most = {0, 1, 2, 2, 3, 3, 4, 4};
        for (int voters = 1; voters <= 7; voters++) {
            Counted x = ready(voters);
            x.read(0, 2);
            for (int heard = 1; heard < most[voters]; heard++) {
                due("16 " + heard + " of " + voters, x.good(0), GAP);
                Check.pass(x, 0, voters - heard);
                Check.pass(x, 0, voters - heard);
            }
            due("16 " + most[voters] + " of " + voters, x.good(0), 7);
        }
    }

    private static void silentOnesDontCount() {
        Counted x = Check.made("keeper a;keeper b silent;keeper c silent;keeper d;");
        x.ask(0);
        Check.deliverAll(x);
        x.command(0, 0, 1, 0, 2, 7);
        Check.pass(x, 0, 3);
        x.read(0, 2);
        Check.pass(x, 0, 1);
        Check.pass(x, 0, 2);
        due("21 answered", x.peer(0, 2, 2), 3);
        due("16 silent ones", x.good(0), GAP);
        Check.pass(x, 0, 3);
        due("16 a voter", x.good(0), 7);
    }

    /** A letter sent ahead of the read does not count, however late it is delivered; the one sent next does. */
    private static void roundBehindRead() {
        Counted x = ready(3);
        x.append(0, 1);
        due("15 read", x.read(0, 2), 0);
        x.append(0, 1);
        x.deliver(0);
        x.deliver(0);
        due("21 answered", x.peer(0, 1, 2), 2);
        due("16 of a round ahead of it", x.good(0), GAP);
        x.deliver(1);
        due("16 not answered yet", x.good(0), GAP);
        x.deliver(0);
        due("21 answered", x.peer(0, 1, 2), 3);
        due("16 of a round behind it", x.good(0), 7);
    }

    /** A no is an answer, too; so is what answers a folding. */
    private static void anyAnswerCounts() {
        Counted x = ready(3);
        x.fold(0, 1);
        x.read(0, 2);
        x.append(0, 2);
        due("22 folding", x.slot(0, 0), 4);
        x.deliver(0);
        x.deliver(0);
        due("16 good by a folding", x.good(0), 7);
        Counted y = ready(3);
        y.command(0, 0, 2, 0, 2, 8);
        Check.pass(y, 0, 1);
        y.ask(1);
        y.deliver(1);
        y.deliver(1);
        y.drop(0);
        y.command(1, 0, 3, 0, 2, 9);
        Check.pass(y, 1, 0);
        due("17 done", y.keeper(1, 5), 3);
        y.read(1, 2);
        y.append(1, 2);
        y.deliver(0);
        due("22 no", y.slot(0, 4), 0);
        y.deliver(0);
        due("16 good by a no", y.good(0), 9);
    }

    private static void eachReadByItsRound() {
        Counted x = ready(3);
        x.read(0, 2);
        x.append(0, 1);
        x.read(0, 2);
        x.append(0, 1);
        x.read(0, 2);
        x.deliver(0);
        x.deliver(0);
        due("16 the first", x.good(0), 7);
        due("16 the second", x.good(1), GAP);
        x.deliver(1);
        x.deliver(0);
        due("16 the second", x.good(1), 7);
        due("16 the third", x.good(2), GAP);
        Check.pass(x, 0, 2);
        due("16 the third", x.good(2), 7);
    }

    private static void cellAsItIs() {
        Counted x = ready(1);
        x.read(0, 2);
        due("16 the cell", x.good(0), 7);
        x.command(0, 0, 2, 1, 2, -9);
        due("16 the cell then", x.good(0), -2);
        due("19 the same", x.state(0, 2), -2);
    }

    private static void cellMayBeGap() {
        Counted x = ready(1);
        x.command(0, 0, 2, 0, 2, GAP);
        x.read(0, 2);
        due("16 the cell is that", x.good(0), GAP);
        x.command(0, 0, 3, 1, 2, 1);
        due("16 one more", x.good(0), GAP + 1);
    }

    private static void notGoodWhileFallen() {
        Counted x = ready(1);
        x.read(0, 2);
        due("16 good", x.good(0), 7);
        x.fall(0);
        due("16 fallen", x.good(0), GAP);
        x.rise(0);
        due("16 risen, it does not lead", x.good(0), GAP);
        due("29 the read is still counted", x.about(4), 1);
        Counted y = ready(3);
        y.read(0, 2);
        Check.pass(y, 0, 1);
        y.fall(1);
        due("16 another one fell", y.good(0), 7);
    }

    private static void goneWithItsTerm() {
        Counted x = ready(3);
        x.read(0, 2);
        Check.pass(x, 0, 1);
        due("16 good", x.good(0), 7);
        x.ask(1);
        due("16 while another one asks", x.good(0), 7);
        x.deliver(0);
        due("17 it follows", x.keeper(0, 2), 0);
        due("16 gone", x.good(0), GAP);
    }

    private static void goneWithLaterTermOfItsOwn() {
        Counted x = ready(1);
        x.read(0, 2);
        x.fall(0);
        x.rise(0);
        x.ask(0);
        x.command(0, 0, 2, 0, 3, 1);
        due("17 leads", x.keeper(0, 2), 2);
        due("16 of an older term", x.good(0), GAP);
        due("15 a new one", x.read(0, 2), 1);
        due("16 good", x.good(1), 7);
        due("16 still gone", x.good(0), GAP);
    }

    /** Two that lead in two terms, each with a read of its own. */
    private static void readsOfTwoLeaders() {
        Counted x = ready(3);
        x.read(0, 2);
        Check.pass(x, 0, 1);
        Check.pass(x, 0, 1);
        x.ask(1);
        x.deliver(1);
        x.deliver(1);
        x.drop(0);
        x.command(1, 1, 1, 0, 2, 5);
        for (int i = 0; i < 3; i++) {
            Check.pass(x, 1, 2);
        }
        due("15 read", x.read(1, 2), 1);
        due("16 the old one still leads in its term", x.good(0), 7);
        due("16 the new one is not good yet", x.good(1), GAP);
        Check.pass(x, 1, 2);
        due("16 the new one", x.good(1), 5);
        Check.pass(x, 1, 0);
        due("16 the old one is gone", x.good(0), GAP);
        due("16 the new one", x.good(1), 5);
    }

    private static void goneWithKeepers() {
        Counted x = ready(1);
        x.read(0, 2);
        Check.lay(x, "keeper a;");
        x.keepers();
        due("4 no reads", x.about(4), 0);
        x.ask(0);
        x.command(0, 0, 1, 0, 2, 4);
        due("16 gone", x.good(0), GAP);
        due("15 from 0 on", x.read(0, 2), 0);
        due("16 good", x.good(0), 4);
    }
}
