/**
 * Late answers and reads (promises 15, 16, 21, 22): a round of an earlier term came ahead of every read of a later
 * one, whatever its number is; peer() tells it all the same.
 */
public final class LateAnswerTest {
    private static final int NONE = LogKeepers.NONE;
    private static final int GAP = LogKeepers.GAP;
    /** No run here has more of them at once. */
    private static final int MOST_LETTERS = 12;
    private static final Check CHECK = new Check("LateAnswerTest");

    public static void main(String[] args) {
        appendOfEarlierTerm();
        foldingOfEarlierTerm();
        answerBehindRead();
        goodBehindLateAnswer(false);
        goodBehindLateAnswer(true);
        lateBehindGood();
        answersOutOfOrder();
        lateOnesAreNotMost();
        lateAnswerTwice();
        lateLettersOutOfBoxes();
        goodAnswersOutOfBoxes();
        heardIsKeptInBoxes();
        slotsUsedAgain();
        twoTermsLater();
        answerOfPassedTerm();
        anotherLeaderAheadOfRead();
        nobodyHeardInNewTerm();
        CHECK.finish();
    }

    private static void due(String what, long got, long want) {
        CHECK.due(what, got, want);
    }

    /** A keeper that led falls and rises, and leads anew; only its asks and their ballots are delivered. */
    private static void leadAnew(Counted x, int keeper) {
        x.fall(keeper);
        x.rise(keeper);
        int term = x.ask(keeper);
        for (int pass = 0; pass < 2; pass++) {
            for (int slot = 0; slot < MOST_LETTERS; slot++) {
                int kind = x.slot(slot, 0);
                if (kind == 0 || kind == 1) {
                    x.deliver(slot);
                }
            }
        }
        due("17 it leads", x.keeper(keeper, 2), 2);
        due("17 its term", x.keeper(keeper, 0), term);
        due("17 its round", x.keeper(keeper, 8), 0);
    }

    /** Keeper 0 of some voters led in term 1 and leads in term 2; slots 0 .. late - 1 hold its appends to 1 of term 1. */
    private static Counted withLateAppends(int voters, int late) {
        Counted x = Check.led(voters);
        for (int i = 0; i < late; i++) {
            due("13 slot", x.append(0, 1), i);
        }
        leadAnew(x, 0);
        due("29 only those are left", x.about(3), late);
        return x;
    }

    /** A command of the leader 0 (cell 2 is the value), passed on to some others by one round each. */
    private static void finish(Counted x, int number, int value, int... others) {
        int entry = x.command(0, 0, number, 0, 2, value);
        for (int other : others) {
            Check.pass(x, 0, other);
        }
        due("17 done", x.keeper(0, 5), entry);
    }

    /** Delivers the late letter in a slot, and the answer to it. */
    private static void deliverLate(Counted x, int slot, int term, int round) {
        int answer = 0;
        while (answer < slot && x.slot(answer, 0) != NONE) {
            answer++;
        }
        due("7 late", x.deliver(slot), 1);
        due("22 an answer", x.slot(answer, 0), 3);
        due("22 of the present term", x.slot(answer, 3), term);
        due("22 no", x.slot(answer, 4), 0);
        due("22 no number", x.slot(answer, 5), 0);
        due("22 with the round of what it answers", x.slot(answer, 8), round);
        due("7 the answer", x.deliver(answer), 0);
    }

    private static void appendOfEarlierTerm() {
        Counted x = withLateAppends(2, 3);
        deliverLate(x, 0, 2, 1);
        deliverLate(x, 2, 2, 3);
        finish(x, 1, 7, 1);
        due("15 read", x.read(0, 2), 0);
        due("17 round", x.keeper(0, 8), 1);
        due("21 the greatest counts", x.peer(0, 1, 2), 3);
        due("16 no round behind the read", x.good(0), GAP);
        deliverLate(x, 1, 2, 2);
        due("21 the greatest counts", x.peer(0, 1, 2), 3);
        due("16 still none", x.good(0), GAP);
        x.append(0, 1);
        due("16 sent, not answered", x.good(0), GAP);
        x.deliver(0);
        due("16 its answer is under way", x.good(0), GAP);
        x.deliver(0);
        due("16 answered", x.good(0), 7);
        due("21 that of the earlier term is greater still", x.peer(0, 1, 2), 3);
    }

    private static void foldingOfEarlierTerm() {
        Counted x = Check.led(3);
        finish(x, 1, 5, 1);
        due("14 fold", x.fold(0, 1), 0);
        x.drop(x.append(0, 1));
        leadAnew(x, 0);
        // In term 2 keeper 2, which has nothing, tells so: NEXT goes down to what is folded.
        finish(x, 2, 6, 1);
        Check.pass(x, 0, 2);
        due("21 next of 2", x.peer(0, 2, 0), 1);
        for (int i = 0; i < 6; i++) {
            due("13 slot", x.append(0, 2), i);
            due("22 a folding", x.slot(i, 0), 4);
            due("22 of term 2", x.slot(i, 3), 2);
            due("22 its round", x.slot(i, 8), 3 + i);
        }
        leadAnew(x, 0);
        x.command(0, 0, 3, 0, 2, 7);
        due("13 slot", x.append(0, 1), 6);
        x.deliver(6);
        x.deliver(6);
        due("17 done", x.keeper(0, 5), 3);
        due("15 read", x.read(0, 2), 0);
        due("17 round", x.keeper(0, 8), 1);
        for (int i = 0; i < 6; i++) {
            deliverLate(x, i, 3, 3 + i);
            due("21 answered", x.peer(0, 2, 2), 3 + i);
            due("16 no round behind the read", x.good(0), GAP);
        }
        due("17 nothing was taken", x.keeper(2, 3), 0);
        due("13 slot", x.append(0, 2), 0);
        due("22 a folding of term 3", x.slot(0, 0) * 10 + x.slot(0, 3), 43);
        x.deliver(0);
        due("16 its answer is under way", x.good(0), GAP);
        x.deliver(0);
        due("16 by a folding behind the read", x.good(0), 7);
        due("21 answered", x.peer(0, 2, 2), 8);
    }

    /** The late letter is delivered behind the read: what it asked came ahead of it all the same. */
    private static void answerBehindRead() {
        Counted x = withLateAppends(2, 5);
        x.command(0, 0, 1, 0, 2, 7);
        due("13 slot", x.append(0, 1), 5);
        x.deliver(5);
        x.deliver(5);
        due("15 read", x.read(0, 2), 0);
        for (int i = 0; i < 5; i++) {
            deliverLate(x, i, 2, 1 + i);
            due("16 late", x.good(0), GAP);
        }
        due("21 answered", x.peer(0, 1, 2), 5);
    }

    /** A round that came behind the read makes it good, though an older and greater one was answered ahead of it. */
    private static void goodBehindLateAnswer(boolean folds) {
        Counted x = withLateAppends(3, 9);
        for (int i = 0; i < 9; i++) {
            deliverLate(x, i, 2, 1 + i);
        }
        finish(x, 1, 7, 1);
        if (folds) {
            due("14 fold", x.fold(0, 1), 0);
        }
        due("15 read", x.read(0, 2), 0);
        due("16 none behind it", x.good(0), GAP);
        due("13 slot", x.append(0, 2), 0);
        due("22 kind", x.slot(0, 0), folds ? 4 : 2);
        x.deliver(0);
        x.deliver(0);
        due("16 good", x.good(0), 7);
        due("15 read", x.read(0, 2), 1);
        due("16 the next is not", x.good(1), GAP);
        Check.pass(x, 0, 1);
        due("16 by the other one", x.good(1), 7);
        due("21 answered by 1", x.peer(0, 1, 2), 9);
        due("21 answered by 2", x.peer(0, 2, 2), 2);
    }

    /** A late answer takes nothing away from a read that is good. */
    private static void lateBehindGood() {
        Counted x = withLateAppends(2, 1);
        x.command(0, 0, 1, 0, 2, 7);
        for (int i = 0; i < 2; i++) {
            x.append(0, 1);
            x.deliver(1);
            x.deliver(1);
            x.read(0, 2);
        }
        due("16 the first", x.good(0), 7);
        due("16 the second", x.good(1), GAP);
        due("21 answered", x.peer(0, 1, 2), 2);
        deliverLate(x, 0, 2, 1);
        due("16 the first", x.good(0), 7);
        due("16 the second", x.good(1), GAP);
        due("21 answered", x.peer(0, 1, 2), 2);
    }

    /** Two rounds of one term, one on each side of the read, answered the later one first. */
    private static void answersOutOfOrder() {
        Counted x = Check.led(2);
        finish(x, 1, 7, 1);
        due("13 round 2", x.append(0, 1), 0);
        x.read(0, 2);
        due("13 round 3", x.append(0, 1), 1);
        x.deliver(1);
        x.deliver(1);
        due("16 by round 3", x.good(0), 7);
        x.deliver(0);
        x.deliver(0);
        due("21 the greatest counts", x.peer(0, 1, 2), 3);
        due("16 good still", x.good(0), 7);
    }

    /** Of five voters three are most: one that answered late and one that answered behind the read are too few. */
    private static void lateOnesAreNotMost() {
        Counted x = Check.led(5);
        for (int i = 0; i < 8; i++) {
            x.append(0, 1 + i % 4);
        }
        leadAnew(x, 0);
        x.command(0, 0, 1, 0, 2, 7);
        for (int other = 1; other <= 2; other++) {
            x.append(0, other);
            x.deliver(8);
            x.deliver(8);
        }
        due("15 read", x.read(0, 2), 0);
        for (int i = 0; i < 8; i++) {
            deliverLate(x, i, 2, 1 + i);
        }
        due("16 four late ones", x.good(0), GAP);
        Check.pass(x, 0, 3);
        due("16 one, and late ones", x.good(0), GAP);
        Check.pass(x, 0, 3);
        due("16 the same one again", x.good(0), GAP);
        Check.pass(x, 0, 1);
        due("16 two", x.good(0), 7);
    }

    private static void lateAnswerTwice() {
        Counted x = withLateAppends(2, 2);
        due("9 the late append", x.twice(1), 2);
        x.deliver(1);
        due("9 the late answer", x.twice(1), 3);
        x.command(0, 0, 1, 0, 2, 7);
        x.append(0, 1);
        x.deliver(4);
        x.deliver(4);
        x.read(0, 2);
        deliverLate(x, 2, 2, 2);
        due("7 the answer", x.deliver(1), 0);
        due("7 the answer once more", x.deliver(3), 0);
        due("21 answered", x.peer(0, 1, 2), 2);
        due("16 none behind it", x.good(0), GAP);
        x.append(0, 1);
        x.deliver(1);
        due("9 an answer behind it", x.twice(1), 2);
        x.drop(1);
        due("16 not delivered", x.good(0), GAP);
        x.deliver(2);
        due("16 good by the second of the two", x.good(0), 7);
    }

    /** Late letters come out of a box as they were: an append, and an answer. */
    private static void lateLettersOutOfBoxes() {
        Counted x = withLateAppends(2, 4);
        x.deliver(3);
        x.command(0, 0, 1, 0, 2, 7);
        x.append(0, 1);
        x.deliver(4);
        x.deliver(4);
        x.read(0, 2);
        due("27 image", x.image(1), 4);
        for (int slot = 0; slot < 4; slot++) {
            x.drop(slot);
        }
        for (int slot = 0; slot < 4; slot++) {
            x.append(0, 1);
            due("7 answers of the present term in their slots", x.deliver(slot), 1);
        }
        x.deliver(3);
        due("16 good", x.good(0), 7);
        due("28 back", x.back(1), 4);
        due("16 as it was", x.good(0), GAP);
        due("7 the late answer", x.deliver(3), 0);
        due("21 answered", x.peer(0, 1, 2), 4);
        due("16 late", x.good(0), GAP);
        deliverLate(x, 2, 2, 3);
        due("16 late", x.good(0), GAP);
    }

    /** An answer of the present term comes out of a box as it was, though a late one had its slot meanwhile. */
    private static void goodAnswersOutOfBoxes() {
        Counted x = withLateAppends(2, 1);
        x.command(0, 0, 1, 0, 2, 7);
        x.append(0, 1);
        x.deliver(1);
        x.deliver(1);
        x.read(0, 2);
        x.append(0, 1);
        x.deliver(1);
        x.image(0);
        x.drop(1);
        due("9 the late append", x.twice(0), 1);
        x.deliver(1);
        due("22 a late answer there", x.slot(1, 8), 1);
        due("28 back", x.back(0), 2);
        due("22 the answer", x.slot(1, 8), 2);
        due("16 not yet", x.good(0), GAP);
        x.deliver(1);
        due("16 good", x.good(0), 7);
    }

    private static void heardIsKeptInBoxes() {
        Counted x = withLateAppends(2, 1);
        deliverLate(x, 0, 2, 1);
        finish(x, 1, 7, 1);
        x.read(0, 2);
        x.image(0);
        Check.pass(x, 0, 1);
        due("16 good", x.good(0), 7);
        x.image(2);
        x.back(0);
        due("16 not good", x.good(0), GAP);
        x.fall(0);
        x.back(2);
        due("16 good", x.good(0), 7);
        x.back(0);
        due("16 not good", x.good(0), GAP);
        Check.pass(x, 0, 1);
        due("16 good", x.good(0), 7);
    }

    /** A slot that held a late answer is used again for one of the present term, and the other way round. */
    private static void slotsUsedAgain() {
        Counted x = withLateAppends(2, 3);
        x.deliver(0);
        x.drop(0);
        x.command(0, 0, 1, 0, 2, 7);
        Check.pass(x, 0, 1);
        x.read(0, 2);
        x.append(0, 1);
        x.deliver(0);
        x.drop(0);
        due("8 a late append", x.drop(2), 2);
        deliverLate(x, 1, 2, 2);
        due("16 late", x.good(0), GAP);
        Check.pass(x, 0, 1);
        due("16 good", x.good(0), 7);
    }

    /** Rounds of term 1 and of term 2, answered in term 3. */
    private static void twoTermsLater() {
        Counted x = withLateAppends(2, 5);
        for (int i = 0; i < 3; i++) {
            due("13 slot", x.append(0, 1), 5 + i);
        }
        leadAnew(x, 0);
        x.command(0, 0, 1, 0, 2, 7);
        x.append(0, 1);
        x.deliver(8);
        x.deliver(8);
        x.read(0, 2);
        deliverLate(x, 7, 3, 3);
        due("16 of term 2", x.good(0), GAP);
        deliverLate(x, 4, 3, 5);
        due("16 of term 1", x.good(0), GAP);
        due("21 answered", x.peer(0, 1, 2), 5);
    }

    /** A late answer that comes in a term later than its own does nothing at all. */
    private static void answerOfPassedTerm() {
        Counted x = withLateAppends(2, 4);
        x.deliver(3);
        leadAnew(x, 0);
        x.command(0, 0, 1, 0, 2, 7);
        x.append(0, 1);
        x.deliver(4);
        x.deliver(4);
        x.read(0, 2);
        due("22 an answer of term 2", x.slot(3, 3), 2);
        due("7 nothing", x.deliver(3), 0);
        due("21 answered", x.peer(0, 1, 2), 1);
        due("21 next", x.peer(0, 1, 0), 2);
        due("16 not good", x.good(0), GAP);
    }

    /** Keeper 1 led in between: an append of 0 of term 1 is answered in term 3, where 0 leads again. */
    private static void anotherLeaderAheadOfRead() {
        Counted x = Check.led(3);
        for (int i = 0; i < 4; i++) {
            x.append(0, 2);
        }
        leadAnew(x, 1);
        due("17 keeper 0 follows", x.keeper(0, 2), 0);
        due("13 keeper 1 sends", x.append(1, 0), 4);
        x.deliver(4);
        x.deliver(4);
        leadAnew(x, 0);
        due("17 term", x.keeper(0, 0), 3);
        x.command(0, 0, 1, 0, 2, 7);
        x.append(0, 1);
        x.deliver(4);
        x.deliver(4);
        due("15 read", x.read(0, 2), 0);
        for (int i = 0; i < 4; i++) {
            deliverLate(x, i, 3, 1 + i);
            due("16 of term 1", x.good(0), GAP);
        }
        Check.pass(x, 0, 2);
        due("16 of term 3", x.good(0), 7);
    }

    /** Many rounds answered in term 1, in time: in term 2 nobody answered any, and the first read is not good. */
    private static void nobodyHeardInNewTerm() {
        Counted x = Check.led(2);
        finish(x, 1, 5, 1);
        for (int i = 0; i < 6; i++) {
            Check.pass(x, 0, 1);
        }
        x.read(0, 2);
        due("16 not behind", x.good(0), GAP);
        leadAnew(x, 0);
        due("21 nobody answered", x.peer(0, 1, 2), 0);
        due("15 none of its term is done", x.read(0, 2), NONE);
        finish(x, 2, 7, 1);
        due("15 read", x.read(0, 2), 1);
        due("16 not behind", x.good(1), GAP);
        Check.pass(x, 0, 1);
        due("16 behind", x.good(1), 7);
        due("16 that of term 1", x.good(0), GAP);
    }
}
