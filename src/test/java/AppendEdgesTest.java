/** The edges of APPEND, ANSWER, FOLDING and of what is DONE: promises 7, 13, 21. */
public final class AppendEdgesTest {
    private static final int NONE = LogKeepers.NONE;
    private static final int GAP = LogKeepers.GAP;
    private static final Check CHECK = new Check("AppendEdgesTest");

    public static void main(String[] args) {
        whoAppends();
        fiveEntriesAtMost();
        nextAtFolded();
        roundIsOneMore();
        appendOfLesserTerm();
        appendToOneThatAsks();
        appendToOneThatLeads();
        aheadAndLast();
        aheadOfAnotherTerm();
        aheadOneOfAnotherTerm();
        aheadAtFolded();
        foldedOnesArePassedOver();
        oneThatItHasStays();
        ownOnesAreCut();
        doneIsTheLess();
        doneIsTheGreater();
        doneOfAhead();
        foldingOfLesserTerm();
        foldingToOneThatAsks();
        foldingAtDone();
        foldingKeepsEntriesBehind();
        foldingOverOthers();
        foldingBringsItsTerm();
        foldingFarAhead();
        answerOfLesserTerm();
        answerToOneThatDoesNotLead();
        greatestRoundCounts();
        roundOfEarlierTerm();
        sureIfMore();
        nextBehindYes();
        nextOfNo();
        nextIsOneAtLeast();
        mostAreSure();
        silentOnesDontCount();
        ownTermOnly();
        peerLooks();
        CHECK.finish();
    }

    private static void due(String what, long got, long want) {
        CHECK.due(what, got, want);
    }

    private static void commands(Counted x, int keeper, int n) {
        for (int i = 0; i < n; i++) {
            int last = x.keeper(keeper, 4);
            x.command(keeper, 0, last + 1, 1, 0, 1);
        }
    }

    private static void dropAll(Counted x) {
        for (int slot = 0; slot < 40 && x.about(3) > 0; slot++) {
            x.drop(slot);
        }
    }

    /** One keeper asks until it is ahead in terms, with the vote of another one alone. */
    private static void elect(Counted x, int keeper, int voter) {
        int term = Math.max(x.keeper(voter, 0), x.keeper(keeper, 0));
        x.fall(keeper);
        x.rise(keeper);
        while (x.keeper(keeper, 0) <= term) {
            dropAll(x);
            x.ask(keeper);
        }
        int slot = 0;
        while (x.slot(slot, 2) != voter) {
            slot++;
        }
        x.deliver(slot);
        x.deliver(slot);
        dropAll(x);
        due("leads", x.keeper(keeper, 2), 2);
    }

    private static void answer(String what, Counted x, int slot, int yes, int number) {
        due(what + ": kind", x.slot(slot, 0), 3);
        due(what + ": yes or no", x.slot(slot, 4), yes);
        due(what + ": number", x.slot(slot, 5), number);
    }

    private static void whoAppends() {
        Counted x = Check.led(3);
        due("13 to itself", x.append(0, 0), NONE);
        due("13 one that follows", x.append(1, 0), NONE);
        x.ask(2);
        due("13 one that asks", x.append(2, 0), NONE);
        int[] none = {-1, 3, 7, Integer.MIN_VALUE, Integer.MAX_VALUE};
        for (int k : none) {
            due("13 to none such", x.append(0, k), NONE);
            due("13 by none such", x.append(k, 0), NONE);
        }
        due("17 no round", x.keeper(0, 8), 0);
        due("29 only the asks", x.about(3), 2);
        x.fall(1);
        due("13 to a fallen one", x.append(0, 1), 2);
        x.fall(0);
        due("13 fallen", x.append(0, 1), NONE);
        x.rise(0);
        due("13 risen, it follows", x.append(0, 1), NONE);
    }

    private static void fiveEntriesAtMost() {
        for (int n = 0; n <= 8; n++) {
            Counted x = Check.led(2);
            commands(x, 0, n);
            x.append(0, 1);
            due("13 entries of " + n, x.slot(0, 6), Math.min(5, n));
            due("13 ahead", x.slot(0, 4), 0);
            due("13 the term of 0", x.slot(0, 5), 0);
            x.deliver(0);
            answer("7 of " + n, x, 0, 1, Math.min(5, n));
            due("7 last", x.keeper(1, 4), Math.min(5, n));
            x.deliver(0);
            x.append(0, 1);
            due("13 the rest of " + n, x.slot(0, 6), Math.max(0, n - 5));
            due("13 ahead", x.slot(0, 4), Math.min(5, n));
            due("13 its term", x.slot(0, 5), n == 0 ? 0 : 1);
        }
    }

    /** NEXT of keeper 2 is 3: below, at and above what is folded. */
    private static void nextAtFolded() {
        for (int folded = 0; folded <= 4; folded++) {
            Counted x = Check.led(3);
            commands(x, 0, 2);
            Check.pass(x, 0, 2);
            commands(x, 0, 2);
            Check.pass(x, 0, 1);
            due("21 next", x.peer(0, 2, 0), 3);
            x.fold(0, folded);
            due("17 folded", x.keeper(0, 3), folded);
            x.append(0, 2);
            due("13 kind with folded " + folded, x.slot(0, 0), folded >= 3 ? 4 : 2);
            due("13 ahead, or folded", x.slot(0, 4), folded >= 3 ? folded : 2);
            due("13 its term", x.slot(0, 5), 1);
            due("13 entries", x.slot(0, 6), folded >= 3 ? 0 : 2);
            due("13 done", x.slot(0, 7), folded >= 3 ? 0 : 4);
            due("13 round", x.slot(0, 8), x.keeper(0, 8));
        }
    }

    private static void roundIsOneMore() {
        Counted x = Check.led(3);
        for (int round = 1; round <= 6; round++) {
            int slot = x.append(0, 1 + round % 2);
            due("13 round", x.keeper(0, 8), round);
            due("13 the letter's", x.slot(slot, 8), round);
        }
        due("17 a follower has none", x.keeper(1, 8), 0);
    }

    private static void appendOfLesserTerm() {
        Counted x = Check.led(3);
        commands(x, 0, 1);
        x.append(0, 2);
        x.append(0, 2);
        x.ask(1);
        x.deliver(3);
        due("7 its term before", x.keeper(2, 0), 2);
        due("7 it answers", x.deliver(1), 1);
        answer("7 of a lesser term", x, 1, 0, 0);
        due("7 of its own term", x.slot(1, 3), 2);
        due("7 the round", x.slot(1, 8), 2);
        due("7 no entry came", x.keeper(2, 4), 0);
        due("7 its vote stays", x.keeper(2, 1), 1);
        x.ask(2);
        due("7 one that asks", x.deliver(0), 1);
        due("7 still asks", x.keeper(2, 2), 1);
    }

    private static void appendToOneThatAsks() {
        Counted x = Check.made(3);
        x.ask(0);
        x.ask(2);
        x.deliver(0);
        x.deliver(0);
        due("7 leads", x.keeper(0, 2), 2);
        commands(x, 0, 1);
        int slot = x.append(0, 2);
        due("7 asks in the same term", x.keeper(2, 0), 1);
        x.deliver(slot);
        due("7 it follows", x.keeper(2, 2), 0);
        due("7 no ballots", x.keeper(2, 7), 0);
        due("7 its vote stays", x.keeper(2, 1), 2);
        due("7 the entry came", x.keeper(2, 4), 1);
    }

    private static void appendToOneThatLeads() {
        Counted x = Check.led(3);
        commands(x, 0, 2);
        elect(x, 1, 2);
        commands(x, 1, 1);
        due("7 it leads in a lesser term", x.keeper(0, 2), 2);
        x.append(1, 0);
        x.deliver(0);
        due("7 it follows", x.keeper(0, 2), 0);
        due("7 its term", x.keeper(0, 0), 2);
        due("7 its vote", x.keeper(0, 1), NONE);
        due("7 its own ones are cut", x.keeper(0, 4), 1);
        due("7 the new one", x.entry(0, 1, 0), 2);
        due("7 no peers any more", x.peer(0, 1, 0), NONE);
    }

    /** The leader's NEXT is 4, so AHEAD is 3; keeper 2 has 0 .. 3 entries. */
    private static void aheadAndLast() {
        for (int has = 0; has <= 3; has++) {
            Counted x = Check.led(3);
            for (int i = 1; i <= 3; i++) {
                commands(x, 0, 1);
                if (i == has) {
                    Check.pass(x, 0, 2);
                }
            }
            Check.pass(x, 0, 1);
            elect(x, 1, 2);
            due("21 next", x.peer(1, 2, 0), 4);
            x.append(1, 2);
            due("13 ahead", x.slot(0, 4), 3);
            due("7 last before", x.keeper(2, 4), has);
            due("7 it answers", x.deliver(0), 1);
            answer("7 with " + has + " entries", x, 0, has == 3 ? 1 : 0, has);
            due("7 last stays", x.keeper(2, 4), has);
        }
    }

    /** Keeper 0 has entries of term 1 alone, 1 .. 5; keeper 1 leads in term 3 and has 1, 2 of term 1, 3 of term 2. */
    private static Counted parted() {
        Counted x = Check.led(3);
        commands(x, 0, 2);
        Check.pass(x, 0, 1);
        Check.pass(x, 0, 2);
        commands(x, 0, 3);
        elect(x, 1, 2);
        commands(x, 1, 1);
        elect(x, 1, 2);
        due("21 next", x.peer(1, 0, 0), 4);
        return x;
    }

    private static void aheadOfAnotherTerm() {
        Counted x = parted();
        x.append(1, 0);
        due("13 ahead", x.slot(0, 4), 3);
        due("13 its term", x.slot(0, 5), 2);
        x.deliver(0);
        answer("7 of another term", x, 0, 0, 2);
        due("7 from ahead on they are cut", x.keeper(0, 4), 2);
        due("7 entry 2 stays", x.entry(0, 2, 0), 1);
        due("7 entry 3 is gone", x.entry(0, 3, 0), GAP);
        due("7 done stays", x.keeper(0, 5), 2);
        x.deliver(0);
        due("7 next", x.peer(1, 0, 0), 3);
        Check.pass(x, 1, 0);
        due("7 the new ones came", x.keeper(0, 4), 3);
        due("7 of term 2", x.entry(0, 3, 0), 2);
    }

    private static void aheadOneOfAnotherTerm() {
        Counted x = Check.led(3);
        commands(x, 0, 4);
        elect(x, 1, 2);
        commands(x, 1, 1);
        elect(x, 1, 2);
        due("21 next", x.peer(1, 0, 0), 2);
        x.append(1, 0);
        x.deliver(0);
        answer("7 ahead is 1", x, 0, 0, 0);
        due("7 all are cut", x.keeper(0, 4), 0);
        x.deliver(0);
        due("7 next is 1", x.peer(1, 0, 0), 1);
        Check.pass(x, 1, 0);
        due("7 it came", x.entry(0, 1, 0), 2);
    }

    /** Keeper 1 has 4 entries, all done, and 2 .. 4 folded; letters tell ahead 2 or 3 (kept from before). */
    private static void aheadAtFolded() {
        for (int folded = 1; folded <= 4; folded++) {
            Counted x = Check.led(3);
            commands(x, 0, 2);
            Check.pass(x, 0, 1);
            commands(x, 0, 2);
            x.append(0, 1);
            x.twice(0);
            x.deliver(0);
            x.deliver(0);
            Check.pass(x, 0, 1);
            due("7 all are done", x.keeper(1, 5), 4);
            due("14 fold", x.fold(1, folded), 4 - folded);
            due("22 ahead", x.slot(1, 4), 2);
            due("22 entries", x.slot(1, 6), 2);
            due("7 it answers", x.deliver(1), 1);
            answer("7 ahead 2, folded " + folded, x, 0, 1, 4);
            due("7 last stays", x.keeper(1, 4), 4);
            due("7 done stays", x.keeper(1, 5), 4);
            due("7 folded stays", x.keeper(1, 3), folded);
            due("7 entry 4", x.entry(1, 4, 2), folded == 4 ? GAP : 4);
        }
    }

    /** A late letter without entries below what is folded, and one whose entries go beyond what the receiver has. */
    private static void foldedOnesArePassedOver() {
        Counted x = Check.led(3);
        x.append(0, 1);
        commands(x, 0, 4);
        Check.pass(x, 0, 1);
        Check.pass(x, 0, 1);
        x.fold(1, 3);
        due("22 no entries", x.slot(0, 6), 0);
        x.deliver(0);
        answer("7 ahead 0, without entries", x, 0, 1, 0);
        due("7 last stays", x.keeper(1, 4), 4);
        due("7 done stays", x.keeper(1, 5), 4);
        Counted y = Check.led(3);
        commands(y, 0, 3);
        Check.pass(y, 0, 1);
        Check.pass(y, 0, 1);
        y.fold(1, 3);
        commands(y, 0, 2);
        Check.pass(y, 0, 2);
        elect(y, 2, 1);
        y.append(2, 1);
        due("22 ahead", y.slot(0, 4), 5);
        y.deliver(0);
        answer("7 ahead above last", y, 0, 0, 3);
        y.twice(0);
        y.deliver(0);
        due("21 next", y.peer(2, 1, 0), 4);
        y.deliver(1);
        due("21 next", y.peer(2, 1, 0), 3);
        y.append(2, 1);
        due("22 ahead is below folded", y.slot(0, 4), 2);
        due("22 entries", y.slot(0, 6), 3);
        y.deliver(0);
        answer("7 one is passed over, two are added", y, 0, 1, 5);
        due("7 last", y.keeper(1, 4), 5);
        due("18 entry 4", y.entry(1, 4, 2), 4);
        due("18 entry 5", y.entry(1, 5, 2), 5);
        due("7 folded stays", y.keeper(1, 3), 3);
    }

    private static void oneThatItHasStays() {
        Counted x = Check.led(3);
        commands(x, 0, 2);
        x.append(0, 1);
        x.twice(0);
        x.deliver(0);
        x.deliver(0);
        commands(x, 0, 3);
        x.append(0, 1);
        x.deliver(0);
        x.drop(0);
        due("7 last", x.keeper(1, 4), 5);
        x.deliver(1);
        answer("7 a late one", x, 0, 1, 2);
        due("7 those behind stay", x.keeper(1, 4), 5);
        due("18 entry 5", x.entry(1, 5, 2), 5);
    }

    /** The first of three entries fits, the second is of another term than the receiver's own. */
    private static void ownOnesAreCut() {
        Counted x = Check.led(3);
        commands(x, 0, 1);
        Check.pass(x, 0, 1);
        x.append(0, 2);
        x.deliver(0);
        x.drop(0);
        commands(x, 0, 4);
        due("7 last before", x.keeper(0, 4), 5);
        elect(x, 1, 2);
        commands(x, 1, 2);
        due("21 next", x.peer(1, 0, 0), 2);
        x.append(1, 0);
        x.deliver(0);
        answer("7 two are added", x, 0, 1, 3);
        due("7 its own are cut from there on", x.keeper(0, 4), 3);
        due("18 entry 1", x.entry(0, 1, 0), 1);
        due("18 entry 2", x.entry(0, 2, 0), 2);
        due("18 entry 3", x.entry(0, 3, 0), 2);
        due("18 entry 4", x.entry(0, 4, 0), GAP);
    }

    /** The leader's done is 7; the letter reaches 5. */
    private static void doneIsTheLess() {
        Counted x = Check.led(3);
        commands(x, 0, 7);
        Check.pass(x, 0, 1);
        Check.pass(x, 0, 1);
        due("17 done", x.keeper(0, 5), 7);
        x.append(0, 2);
        due("22 done", x.slot(0, 7), 7);
        x.deliver(0);
        due("7 the last one added", x.keeper(2, 5), 5);
        due("19 the state behind that", x.state(2, 0), 5);
        x.deliver(0);
        commands(x, 0, 1);
        Check.pass(x, 0, 2);
        due("7 the letter's done", x.keeper(2, 5), 7);
        due("7 last", x.keeper(2, 4), 8);
        due("19 the state behind that", x.state(2, 0), 7);
    }

    private static void doneIsTheGreater() {
        Counted x = Check.led(3);
        commands(x, 0, 3);
        x.append(0, 1);
        x.twice(0);
        x.deliver(0);
        x.deliver(0);
        Check.pass(x, 0, 1);
        due("7 done", x.keeper(1, 5), 3);
        due("22 the late one's done", x.slot(1, 7), 0);
        x.deliver(1);
        due("7 done stays", x.keeper(1, 5), 3);
        due("19 the state stays", x.state(1, 0), 3);
    }

    /** Without entries, ahead is the last one. */
    private static void doneOfAhead() {
        Counted x = Check.led(3);
        commands(x, 0, 2);
        Check.pass(x, 0, 1);
        Check.pass(x, 0, 2);
        x.append(0, 2);
        due("22 no entries", x.slot(0, 6), 0);
        due("22 ahead", x.slot(0, 4), 2);
        x.deliver(0);
        answer("7 ahead", x, 0, 1, 2);
        due("7 done", x.keeper(2, 5), 2);
    }

    private static void foldingOfLesserTerm() {
        Counted x = Check.led(3);
        commands(x, 0, 2);
        Check.pass(x, 0, 1);
        x.fold(0, 2);
        x.append(0, 2);
        due("22 folding", x.slot(0, 0), 4);
        x.ask(2);
        due("7 it answers", x.deliver(0), 1);
        answer("7 of a lesser term", x, 0, 0, 0);
        due("7 of its own term", x.slot(0, 3), 2);
        due("7 the round", x.slot(0, 8), 2);
        due("7 no fold came", x.keeper(2, 3), 0);
        due("7 it still asks", x.keeper(2, 2), 1);
    }

    private static void foldingToOneThatAsks() {
        Counted x = Check.made(3);
        x.ask(0);
        x.ask(2);
        x.deliver(0);
        x.deliver(0);
        dropAll(x);
        commands(x, 0, 1);
        Check.pass(x, 0, 1);
        x.fold(0, 1);
        x.append(0, 2);
        due("22 folding", x.slot(0, 0), 4);
        due("7 asks in its term", x.keeper(2, 2), 1);
        x.deliver(0);
        due("7 it follows", x.keeper(2, 2), 0);
        due("7 folded", x.keeper(2, 3), 1);
        answer("7 folding", x, 0, 1, 1);
        due("7 the round", x.slot(0, 8), 2);
    }

    /** A folding of 3 comes to one whose done is 2, 3, or 4. */
    private static void foldingAtDone() {
        for (int was = 2; was <= 4; was++) {
            Counted x = Check.led(3);
            commands(x, 0, 1);
            for (int done = 2; done <= 4; done++) {
                commands(x, 0, 1);
                Check.pass(x, 0, 1);
                if (done == was) {
                    x.append(0, 2);
                    x.deliver(0);
                    x.drop(0);
                }
            }
            due("17 done before", x.keeper(2, 5), was);
            x.fold(0, 3);
            x.append(0, 2);
            due("22 folding", x.slot(0, 0), 4);
            due("7 it answers", x.deliver(0), 1);
            answer("7 whatever is done", x, 0, 1, 3);
            due("17 folded", x.keeper(2, 3), was < 3 ? 3 : 0);
            due("17 done", x.keeper(2, 5), Math.max(was, 3));
            due("17 last", x.keeper(2, 4), Math.max(was, 3));
            due("18 entry 1", x.entry(2, 1, 2), was < 3 ? GAP : 1);
            due("19 state", x.state(2, 0), Math.max(was, 3));
            x.deliver(0);
            due("21 sure", x.peer(0, 2, 1), 3);
            due("21 next", x.peer(0, 2, 0), 4);
        }
    }

    private static void foldingKeepsEntriesBehind() {
        Counted x = Check.led(3);
        commands(x, 0, 5);
        x.append(0, 2);
        x.deliver(0);
        x.drop(0);
        Check.pass(x, 0, 1);
        x.fold(0, 3);
        x.append(0, 2);
        due("22 folding", x.slot(0, 0), 4);
        x.deliver(0);
        due("17 folded", x.keeper(2, 3), 3);
        due("17 done", x.keeper(2, 5), 3);
        due("17 those behind stay", x.keeper(2, 4), 5);
        due("18 folded", x.entry(2, 3, 2), GAP);
        due("18 entry 4", x.entry(2, 4, 2), 4);
        due("18 entry 5", x.entry(2, 5, 2), 5);
        due("19 state", x.state(2, 0), 3);
        x.deliver(0);
        due("21 sure", x.peer(0, 2, 1), 3);
        due("21 next", x.peer(0, 2, 0), 4);
        Check.pass(x, 0, 2);
        due("17 done", x.keeper(2, 5), 5);
        due("19 state", x.state(2, 0), 5);
    }

    /** The receiver has an entry of that number, but of another term: none of its own stay. */
    private static void foldingOverOthers() {
        Counted x = Check.led(3);
        commands(x, 0, 5);
        elect(x, 1, 2);
        commands(x, 1, 2);
        Check.pass(x, 1, 2);
        x.fold(1, 2);
        due("21 next", x.peer(1, 0, 0), 1);
        x.append(1, 0);
        due("22 folding", x.slot(0, 0), 4);
        due("22 its term", x.slot(0, 5), 2);
        due("17 last before", x.keeper(0, 4), 5);
        x.deliver(0);
        due("17 last is folded", x.keeper(0, 4), 2);
        due("17 folded", x.keeper(0, 3), 2);
        due("18 none is there", x.entry(0, 3, 0), GAP);
        commands(x, 1, 1);
        x.deliver(0);
        Check.pass(x, 1, 0);
        due("18 the next one comes", x.entry(0, 3, 0), 2);
        x.fall(0);
        due("10 the fold is saved", x.keeper(0, 3), 2);
        due("10 with its state", x.state(0, 0), 2);
    }

    /** The fold comes with the term of its last one: what is then asked, and who may be voted for, goes by it. */
    private static void foldingBringsItsTerm() {
        Counted x = Check.led(3);
        elect(x, 1, 2);
        elect(x, 0, 2);
        commands(x, 0, 2);
        Check.pass(x, 0, 1);
        x.fold(0, 2);
        x.append(0, 2);
        due("22 folding", x.slot(0, 0), 4);
        x.deliver(0);
        x.drop(0);
        x.ask(2);
        due("22 last is folded", x.slot(0, 4), 2);
        due("22 its term", x.slot(0, 5), 3);
    }

    private static void foldingFarAhead() {
        Counted x = Check.led(3);
        commands(x, 0, 1);
        Check.pass(x, 0, 2);
        for (int i = 0; i < 6; i++) {
            commands(x, 0, 5);
            Check.pass(x, 0, 1);
            Check.pass(x, 0, 1);
        }
        x.fold(0, 30);
        x.append(0, 2);
        due("22 folding", x.slot(0, 0), 4);
        x.deliver(0);
        due("17 folded", x.keeper(2, 3), 30);
        due("17 last", x.keeper(2, 4), 30);
        due("17 done", x.keeper(2, 5), 30);
        due("18 its own is gone", x.entry(2, 1, 0), GAP);
        due("19 state", x.state(2, 0), 30);
        x.deliver(0);
        Check.pass(x, 0, 2);
        due("17 last", x.keeper(2, 4), 31);
        due("17 done", x.keeper(2, 5), 31);
    }

    private static void answerOfLesserTerm() {
        Counted x = Check.led(3);
        commands(x, 0, 1);
        x.append(0, 1);
        x.deliver(0);
        x.fall(0);
        x.rise(0);
        x.ask(0);
        x.deliver(1);
        x.deliver(1);
        due("7 leads in term 2", x.keeper(0, 2), 2);
        due("22 an answer of term 1", x.slot(0, 3), 1);
        due("7 nothing is sent", x.deliver(0), 0);
        due("21 sure", x.peer(0, 1, 1), 0);
        due("21 next", x.peer(0, 1, 0), 2);
        due("21 answered", x.peer(0, 1, 2), 0);
        due("17 still leads", x.keeper(0, 2), 2);
        due("17 nothing is done", x.keeper(0, 5), 0);
    }

    private static void answerToOneThatDoesNotLead() {
        Counted x = Check.led(3);
        commands(x, 0, 1);
        x.append(0, 1);
        x.deliver(0);
        x.fall(0);
        x.rise(0);
        due("7 nothing is sent", x.deliver(0), 0);
        due("17 it follows", x.keeper(0, 2), 0);
        due("17 nothing is done", x.keeper(0, 5), 0);
    }

    private static void greatestRoundCounts() {
        Counted x = Check.led(3);
        for (int i = 0; i < 3; i++) {
            x.append(0, 1);
        }
        int[] order = {1, 0, 2};
        int[] reply = {1, 0, 0};
        int[] want = {2, 2, 3};
        for (int i = 0; i < 3; i++) {
            x.deliver(order[i]);
            x.deliver(reply[i]);
            due("21 answered", x.peer(0, 1, 2), want[i]);
        }
        due("21 the other one", x.peer(0, 2, 2), 0);
    }

    /** A no to an append of term 1 has the term of who sends it: to one that leads in term 2 it counts. */
    private static void roundOfEarlierTerm() {
        Counted x = Check.led(3);
        commands(x, 0, 2);
        x.append(0, 1);
        x.append(0, 1);
        x.drop(0);
        x.fall(0);
        x.rise(0);
        due("6 term 2", x.ask(0), 2);
        x.deliver(0);
        x.deliver(0);
        due("17 leads", x.keeper(0, 2), 2);
        due("17 its round", x.keeper(0, 8), 0);
        due("21 next", x.peer(0, 1, 0), 3);
        due("7 the append of term 1 is answered", x.deliver(1), 1);
        answer("7 of a lesser term", x, 0, 0, 0);
        due("22 the term of who sends it", x.slot(0, 3), 2);
        due("22 the round of what it answers", x.slot(0, 8), 2);
        due("7 taken", x.deliver(0), 0);
        due("21 answered", x.peer(0, 1, 2), 2);
        due("21 next", x.peer(0, 1, 0), 1);
        due("21 sure", x.peer(0, 1, 1), 0);
        due("17 its round stays", x.keeper(0, 8), 0);
    }

    private static void sureIfMore() {
        Counted x = Check.led(3);
        commands(x, 0, 1);
        x.append(0, 1);
        commands(x, 0, 1);
        x.append(0, 1);
        x.deliver(1);
        x.deliver(1);
        due("21 sure", x.peer(0, 1, 1), 2);
        due("21 next", x.peer(0, 1, 0), 3);
        x.deliver(0);
        answer("7 a lesser one", x, 0, 1, 1);
        x.deliver(0);
        due("21 sure stays", x.peer(0, 1, 1), 2);
        due("21 next is sure + 1", x.peer(0, 1, 0), 3);
        due("17 done", x.keeper(0, 5), 2);
    }

    /** A late no takes NEXT below SURE; a late yes that tells less than SURE brings it back. */
    private static void nextBehindYes() {
        Counted x = Check.led(3);
        commands(x, 0, 2);
        Check.pass(x, 0, 2);
        commands(x, 0, 2);
        Check.pass(x, 0, 1);
        elect(x, 1, 2);
        x.append(1, 2);
        x.deliver(0);
        answer("7 above last", x, 0, 0, 2);
        x.twice(0);
        x.deliver(0);
        due("22 the next letter", x.append(1, 2), 0);
        x.twice(0);
        due("22 the no, and the append twice", x.about(3), 3);
        commands(x, 1, 1);
        x.append(1, 2);
        x.deliver(3);
        x.deliver(3);
        due("21 sure", x.peer(1, 2, 1), 5);
        due("21 next", x.peer(1, 2, 0), 6);
        x.deliver(1);
        due("21 a no behind it: next", x.peer(1, 2, 0), 3);
        due("21 a no behind it: sure", x.peer(1, 2, 1), 5);
        x.deliver(0);
        answer("7 tells less than sure", x, 0, 1, 4);
        x.deliver(0);
        due("21 a yes behind it: next", x.peer(1, 2, 0), 6);
        due("21 a yes behind it: sure", x.peer(1, 2, 1), 5);
    }

    /** Keeper 2 has two entries, the leader 1 has three: the no tells 2, and comes three times. */
    private static void nextOfNo() {
        Counted x = Check.led(3);
        commands(x, 0, 2);
        Check.pass(x, 0, 2);
        commands(x, 0, 2);
        Check.pass(x, 0, 1);
        elect(x, 1, 2);
        due("21 next", x.peer(1, 2, 0), 5);
        x.append(1, 2);
        x.deliver(0);
        answer("7 above last", x, 0, 0, 2);
        x.twice(0);
        x.twice(0);
        x.deliver(0);
        due("21 that number + 1 is less than next - 1", x.peer(1, 2, 0), 3);
        x.deliver(1);
        due("21 next - 1 is less", x.peer(1, 2, 0), 2);
        x.deliver(2);
        due("21 next - 1 is less", x.peer(1, 2, 0), 1);
        due("21 sure", x.peer(1, 2, 1), 0);
        due("21 answered", x.peer(1, 2, 2), 1);
    }

    private static void nextIsOneAtLeast() {
        Counted x = Check.led(3);
        commands(x, 0, 3);
        Check.pass(x, 0, 1);
        elect(x, 1, 2);
        x.append(1, 2);
        x.deliver(0);
        answer("7 nothing is there", x, 0, 0, 0);
        x.twice(0);
        x.twice(0);
        for (int slot = 0; slot < 3; slot++) {
            x.deliver(slot);
            due("21 next", x.peer(1, 2, 0), 1);
        }
        x.append(1, 2);
        due("22 ahead is 0", x.slot(0, 4), 0);
        due("22 its term is 0", x.slot(0, 5), 0);
    }

    private static void mostAreSure() {
        int[] most = {0, 1, 2, 2, 3, 3, 4, 4};
        for (int voters = 1; voters <= 7; voters++) {
            Counted x = Check.led(voters);
            commands(x, 0, 1);
            for (int sure = 1; sure < most[voters]; sure++) {
                due("3 " + sure + " of " + voters, x.keeper(0, 5), 0);
                Check.pass(x, 0, sure);
            }
            due("3 " + most[voters] + " of " + voters, x.keeper(0, 5), 1);
            due("19 state", x.state(0, 0), 1);
        }
    }

    private static void silentOnesDontCount() {
        Counted x = Check.made("keeper a silent;keeper b;keeper c silent;keeper d;keeper e silent;");
        x.ask(1);
        Check.deliverAll(x);
        commands(x, 1, 1);
        Check.pass(x, 1, 0);
        Check.pass(x, 1, 2);
        Check.pass(x, 1, 4);
        due("21 sure", x.peer(1, 4, 1), 1);
        due("17 nothing is done", x.keeper(1, 5), 0);
        Check.pass(x, 1, 3);
        due("17 done", x.keeper(1, 5), 1);
        due("17 a silent one has it", x.keeper(0, 4), 1);
        due("17 not done there", x.keeper(0, 5), 0);
        Check.pass(x, 1, 0);
        due("17 done there", x.keeper(0, 5), 1);
    }

    private static void ownTermOnly() {
        Counted x = Check.led(3);
        commands(x, 0, 2);
        Check.pass(x, 0, 1);
        elect(x, 1, 2);
        for (int i = 0; i < 3; i++) {
            Check.pass(x, 1, 2);
        }
        due("21 sure of both", x.peer(1, 2, 1), 2);
        due("17 of an older term: not done", x.keeper(1, 5), 0);
        commands(x, 1, 1);
        due("17 not yet", x.keeper(1, 5), 0);
        Check.pass(x, 1, 2);
        due("17 with one of its own, all are", x.keeper(1, 5), 3);
        due("19 state", x.state(1, 0), 3);
        Counted y = Check.led(1);
        commands(y, 0, 2);
        y.fall(0);
        y.rise(0);
        y.ask(0);
        due("17 alone, of an older term", y.keeper(0, 5), 0);
        commands(y, 0, 1);
        due("17 alone, with one of its own", y.keeper(0, 5), 3);
    }

    private static void peerLooks() {
        Counted x = Check.led(7);
        due("21 keeper 6", x.peer(0, 6, 0), 1);
        int[] none = {-1, 7, 8, Integer.MIN_VALUE, Integer.MAX_VALUE};
        for (int k : none) {
            due("21 none such", x.peer(0, k, 0), NONE);
            due("21 none such", x.peer(k, 0, 0), NONE);
        }
        int[] noWhat = {-1, 3, Integer.MIN_VALUE, Integer.MAX_VALUE};
        for (int what : noWhat) {
            due("21 another what", x.peer(0, 1, what), NONE);
        }
        for (int what = 0; what <= 2; what++) {
            due("21 itself", x.peer(0, 0, what), NONE);
            due("21 one that follows", x.peer(1, 0, what), NONE);
        }
        x.fall(0);
        due("21 fallen", x.peer(0, 1, 0), NONE);
    }
}
