/** The edges of asking, voting and terms: promises 6 and 7 (ASK, BALLOT, a lesser and a greater TERM, the FALLEN). */
public final class VoteEdgesTest {
    private static final int NONE = LogKeepers.NONE;
    private static final Check CHECK = new Check("VoteEdgesTest");

    public static void main(String[] args) {
        whoAsks();
        whatAskDoes();
        asksAreSentToOtherVoters();
        leadsWithBallotsOfMost();
        leadsAnew();
        fallenReceiveNothing();
        askOfLesserTerm();
        askOfSameTerm();
        askOfGreaterTerm();
        voteNoneOrSender();
        voteIsSaved();
        lastOfGreaterTerm();
        lastOfSameTerm();
        lastIsFolded();
        noVoteForLesserRowButItsTerm();
        ballotOfLesserTerm();
        ballotOfGreaterTerm();
        ballotOfOneThatDoesNotAsk();
        ballotCountsOnce();
        ballotBehindLeading();
        ballotOfNo();
        greaterTermOfEachKind();
        greaterTermByFolding();
        CHECK.finish();
    }

    private static void due(String what, long got, long want) {
        CHECK.due(what, got, want);
    }

    private static void due(String what, boolean got, boolean want) {
        CHECK.due(what, got, want);
    }

    private static void keeper(String what, Counted x, int keeper, int term, int vote, int role) {
        due(what + ": term", x.keeper(keeper, 0), term);
        due(what + ": vote", x.keeper(keeper, 1), vote);
        due(what + ": role", x.keeper(keeper, 2), role);
    }

    private static void whoAsks() {
        Counted x = Check.made("keeper a;keeper b silent;keeper c;");
        due("6 silent", x.ask(1), NONE);
        keeper("6 silent", x, 1, 0, NONE, 0);
        int[] none = {-1, 3, 7, Integer.MIN_VALUE, Integer.MAX_VALUE};
        for (int k : none) {
            due("6 none such", x.ask(k), NONE);
        }
        x.fall(2);
        due("6 fallen", x.ask(2), NONE);
        keeper("6 fallen", x, 2, 0, NONE, 0);
        due("6 nothing was sent", x.about(3), 0);
        x.rise(2);
        due("6 risen", x.ask(2), 1);
        due("6 one that asks", x.ask(2), 2);
        Check.deliverAll(x);
        keeper("6 leads", x, 2, 2, 2, 2);
        due("6 leads", x.ask(2), NONE);
        keeper("6 leads", x, 2, 2, 2, 2);
        due("6 one that follows", x.ask(0), 3);
    }

    private static void whatAskDoes() {
        Counted x = Check.made(5);
        x.ask(3);
        Check.deliverAll(x);
        keeper("7 voted", x, 1, 1, 3, 0);
        due("6 its term is one more", x.ask(1), 2);
        keeper("6 asks", x, 1, 2, 1, 1);
        due("6 its own ballot", x.keeper(1, 7), 2);
        x.deliver(0);
        x.deliver(0);
        due("6 two ballots", x.keeper(1, 7), 3);
        due("6 again", x.ask(1), 3);
        due("6 only its own ballot", x.keeper(1, 7), 2);
        keeper("6 asks", x, 1, 3, 1, 1);
    }

    private static void asksAreSentToOtherVoters() {
        Counted x = Check.made("keeper a silent;keeper b;keeper c;keeper d silent;keeper e;keeper f;keeper g silent;");
        x.fall(4);
        x.ask(2);
        int[] to = {1, 4, 5};
        due("6 letters", x.about(3), to.length);
        for (int slot = 0; slot < to.length; slot++) {
            due("6 kind", x.slot(slot, 0), 0);
            due("6 sender", x.slot(slot, 1), 2);
            due("6 by number, the fallen ones too", x.slot(slot, 2), to[slot]);
            due("6 term", x.slot(slot, 3), 1);
            due("6 last", x.slot(slot, 4), 0);
            due("6 its term", x.slot(slot, 5), 0);
        }
    }

    private static void leadsWithBallotsOfMost() {
        int[] most = {0, 1, 2, 2, 3, 3, 4, 4};
        for (int voters = 1; voters <= 7; voters++) {
            Counted x = Check.made(voters);
            x.ask(0);
            for (int ballots = 1; ballots < most[voters]; ballots++) {
                due("3 " + ballots + " ballots of " + voters, x.keeper(0, 2), 1);
                due("3 ballots", x.keeper(0, 7), (1 << ballots) - 1);
                x.deliver(ballots - 1);
                x.deliver(0);
            }
            due("3 " + most[voters] + " ballots of " + voters, x.keeper(0, 2), 2);
            due("3 ballots", x.keeper(0, 7), (1 << most[voters]) - 1);
            due("17 round", x.keeper(0, 8), 0);
        }
    }

    /** NEXT is LAST + 1, SURE 0, ROUND 0, nobody ANSWERED: whatever was when it led before. */
    private static void leadsAnew() {
        Counted x = Check.led(3);
        for (int i = 1; i <= 3; i++) {
            x.command(0, 0, i, 0, 0, i);
        }
        Check.pass(x, 0, 1);
        Check.pass(x, 0, 1);
        Check.pass(x, 0, 2);
        due("21 sure", x.peer(0, 1, 1), 3);
        due("21 answered", x.peer(0, 2, 2), 3);
        x.fold(0, 2);
        x.fall(0);
        x.rise(0);
        x.ask(0);
        due("21 one that asks", x.peer(0, 1, 0), NONE);
        due("17 its round", x.keeper(0, 8), 0);
        Check.deliverAll(x);
        keeper("3 leads", x, 0, 2, 0, 2);
        due("3 round 0", x.keeper(0, 8), 0);
        for (int other = 1; other <= 2; other++) {
            due("3 next is last + 1", x.peer(0, other, 0), 4);
            due("3 sure 0", x.peer(0, other, 1), 0);
            due("3 nobody answered", x.peer(0, other, 2), 0);
        }
        x.append(0, 1);
        due("3 the first round", x.slot(0, 8), 1);
    }

    /** A letter of each kind to one that fell: it leaves its slot, nothing else is. */
    private static void fallenReceiveNothing() {
        Counted x = Check.made(3);
        x.ask(0);
        x.ask(0);
        x.fall(1);
        due("7 ask", x.deliver(0), 0);
        keeper("7 ask", x, 1, 0, NONE, 0);
        x.deliver(1);
        x.fall(0);
        due("7 ballot", x.deliver(0), 0);
        keeper("7 ballot", x, 0, 2, 0, 0);
        due("7 ballot", x.keeper(0, 7), 0);
        due("29 they left", x.about(3), 2);
        Counted y = Check.led(3);
        y.command(0, 0, 1, 0, 0, 1);
        y.append(0, 1);
        y.fall(1);
        due("7 append", y.deliver(0), 0);
        due("7 no entry came", y.keeper(1, 4), 0);
        due("29 it left", y.about(3), 0);
        y.rise(1);
        y.append(0, 1);
        y.deliver(0);
        y.fall(0);
        due("7 answer", y.deliver(0), 0);
        due("7 nothing is done", y.keeper(0, 5), 0);
        Counted z = Check.led(3);
        z.command(0, 0, 1, 0, 0, 1);
        Check.pass(z, 0, 1);
        z.fold(0, 1);
        z.append(0, 2);
        z.fall(2);
        due("7 folding", z.deliver(0), 0);
        due("7 no fold came", z.keeper(2, 3), 0);
        due("7 no last", z.keeper(2, 4), 0);
        due("29 it left", z.about(3), 0);
        z.rise(2);
        due("7 nor later", z.keeper(2, 3), 0);
    }

    private static void askOfLesserTerm() {
        Counted x = Check.made(3);
        x.ask(0);
        x.ask(1);
        x.ask(1);
        due("7 it sends a ballot", x.deliver(0), 1);
        keeper("7 it still asks", x, 1, 2, 1, 1);
        due("7 ballot", x.slot(0, 0), 1);
        due("7 of its own term", x.slot(0, 3), 2);
        due("7 no", x.slot(0, 4), 0);
        x.drop(0);
        x.ask(1);
        x.fall(1);
        x.rise(1);
        x.ask(0);
        due("7 it follows, in term 3", x.keeper(1, 0), 3);
        int slot = 0;
        while (x.slot(slot, 1) != 0 || x.slot(slot, 2) != 1) {
            slot++;
        }
        due("7 an ask of term 2", x.slot(slot, 3), 2);
        x.deliver(slot);
        due("7 no", x.slot(0, 4), 0);
        keeper("7 its vote stays", x, 1, 3, 1, 0);
    }

    private static void askOfSameTerm() {
        Counted x = Check.made(3);
        x.ask(0);
        x.ask(1);
        due("7 one that asks itself", x.deliver(0), 1);
        due("7 no", x.slot(0, 4), 0);
        keeper("7 it still asks", x, 1, 1, 1, 1);
        Counted y = Check.made(3);
        y.ask(1);
        y.ask(0);
        y.deliver(1);
        y.deliver(1);
        keeper("7 leads", y, 1, 1, 1, 2);
        due("7 one that leads", y.deliver(2), 1);
        due("7 no", y.slot(1, 4), 0);
        keeper("7 it still leads", y, 1, 1, 1, 2);
    }

    private static void askOfGreaterTerm() {
        Counted x = Check.led(3);
        x.append(0, 1);
        x.ask(1);
        due("7 one that leads", x.deliver(1), 1);
        keeper("7 it follows", x, 0, 2, 1, 0);
        due("7 no ballots", x.keeper(0, 7), 0);
        due("7 no round", x.keeper(0, 8), 0);
        due("7 yes", x.slot(1, 4), 1);
        due("7 of the new term", x.slot(1, 3), 2);
        Counted y = Check.made(3);
        y.ask(0);
        y.ask(1);
        y.ask(1);
        due("7 one that asks", y.deliver(4), 1);
        keeper("7 it follows", y, 0, 2, 1, 0);
        due("7 no ballots", y.keeper(0, 7), 0);
    }

    private static void voteNoneOrSender() {
        Counted x = Check.made(5);
        x.ask(0);
        x.ask(1);
        int twice = x.twice(1);
        due("7 none yet", x.deliver(1), 1);
        due("7 yes", x.slot(1, 4), 1);
        keeper("7 its vote", x, 2, 1, 0, 0);
        due("7 the same sender", x.deliver(twice), 1);
        due("7 yes again", x.slot(twice, 4), 1);
        keeper("7 its vote", x, 2, 1, 0, 0);
        due("7 another sender", x.slot(5, 1), 1);
        x.deliver(5);
        due("7 no", x.slot(5, 4), 0);
        keeper("7 its vote stays", x, 2, 1, 0, 0);
    }

    private static void voteIsSaved() {
        Counted x = Check.made(3);
        x.ask(0);
        x.ask(1);
        x.deliver(1);
        x.fall(2);
        keeper("10 term and vote stay", x, 2, 1, 0, 0);
        x.rise(2);
        keeper("11 term and vote stay", x, 2, 1, 0, 0);
        due("7 another one asks", x.deliver(3), 1);
        due("7 no", x.slot(3, 4), 0);
        Counted y = Check.made(3);
        y.ask(0);
        y.fall(0);
        y.rise(0);
        y.ask(1);
        due("7 its vote was its own", y.deliver(2), 1);
        due("7 no", y.slot(2, 4), 0);
    }

    /** Keeper 0 has five entries of term 1; keeper 1 has two of them, and one of term 2; keeper 2 has those two. */
    private static Counted parted() {
        Counted x = Check.led(3);
        x.command(0, 0, 1, 0, 0, 1);
        x.command(0, 0, 2, 0, 0, 2);
        Check.pass(x, 0, 1);
        Check.pass(x, 0, 2);
        for (int i = 3; i <= 5; i++) {
            x.command(0, 0, i, 0, 0, i);
        }
        x.ask(1);
        x.deliver(1);
        x.deliver(1);
        x.drop(0);
        x.command(1, 1, 1, 0, 1, 9);
        return x;
    }

    /** Whether one gives its vote to another one that asks; the post is empty before. */
    private static int ballot(Counted x, int asker, int voter) {
        x.ask(asker);
        int slot = 0;
        while (x.slot(slot, 2) != voter) {
            slot++;
        }
        x.deliver(slot);
        return x.slot(slot, 4);
    }

    private static void lastOfGreaterTerm() {
        due("7 shorter, of a greater term", ballot(risen(parted()), 1, 0), 1);
        due("7 longer, of a lesser term", ballot(risen(parted()), 0, 1), 0);
        due("7 longer, of the same term", ballot(risen(parted()), 0, 2), 1);
        due("7 shorter, of the same term", ballot(risen(parted()), 2, 0), 0);
        due("7 shorter, of a lesser term", ballot(risen(parted()), 2, 1), 0);
        due("7 longer, of a greater term", ballot(risen(parted()), 1, 2), 1);
    }

    /** All fell and rose: each of them follows, and may ask twice to be ahead in terms. */
    private static Counted risen(Counted x) {
        for (int k = 0; k < 3; k++) {
            x.fall(k);
            x.rise(k);
        }
        for (int k = 0; k < 3; k++) {
            for (int i = 0; x.keeper(k, 0) < 3 && i < 3; i++) {
                x.ask(k);
            }
            x.fall(k);
            x.rise(k);
        }
        for (int slot = 0; slot < 40; slot++) {
            x.drop(slot);
        }
        return x;
    }

    private static void lastOfSameTerm() {
        for (int own = 0; own <= 3; own++) {
            Counted x = Check.led(3);
            for (int i = 1; i <= 3; i++) {
                x.command(0, 0, i, 0, 0, i);
                if (i == 2) {
                    Check.pass(x, 0, 2);
                }
                if (i == own) {
                    Check.pass(x, 0, 1);
                }
            }
            due("7 voter's last", x.keeper(1, 4), own);
            due("7 voter's last " + own + ", asker's 2", ballot(x, 2, 1), own <= 2 ? 1 : 0);
        }
    }

    /** With no entries behind the fold, the term of the last folded one is what counts. */
    private static void lastIsFolded() {
        Counted x = Check.led(3);
        x.command(0, 0, 1, 0, 0, 1);
        Check.pass(x, 0, 1);
        x.fold(0, 1);
        x.fall(0);
        x.rise(0);
        x.ask(0);
        due("6 last is folded", x.slot(0, 4), 1);
        due("6 the term of that", x.slot(0, 5), 1);
        due("7 one without it", x.deliver(1), 1);
        due("7 yes", x.slot(1, 4), 1);
        x.drop(0);
        x.drop(1);
        due("7 one without it asks", ballot(x, 2, 0), 0);
        for (int slot = 0; slot < 3; slot++) {
            x.drop(slot);
        }
        due("7 one with the same asks", ballot(x, 1, 0), 0);
        keeper("7 of a lesser term", x, 0, 3, NONE, 0);
        for (int slot = 0; slot < 3; slot++) {
            x.drop(slot);
        }
        x.ask(1);
        for (int slot = 0; slot < 3; slot++) {
            x.drop(slot);
        }
        due("7 one with the same asks, of a greater term", ballot(x, 1, 0), 1);
    }

    private static void noVoteForLesserRowButItsTerm() {
        Counted x = Check.led(3);
        x.command(0, 0, 1, 0, 0, 1);
        x.ask(2);
        x.deliver(0);
        due("7 no", x.slot(0, 4), 0);
        due("7 of the new term", x.slot(0, 3), 2);
        keeper("7 the leader follows, without a vote", x, 0, 2, NONE, 0);
        due("7 its entry stays", x.keeper(0, 4), 1);
    }

    private static void ballotOfLesserTerm() {
        Counted x = Check.made(3);
        x.ask(0);
        x.deliver(0);
        x.ask(0);
        due("7 of term 1", x.slot(0, 3), 1);
        due("7 yes", x.slot(0, 4), 1);
        due("7 nothing is sent", x.deliver(0), 0);
        due("7 it is not counted", x.keeper(0, 7), 1);
        keeper("7 it still asks", x, 0, 2, 0, 1);
    }

    private static void ballotOfGreaterTerm() {
        Counted x = Check.made(3);
        for (int i = 0; i < 5; i++) {
            x.ask(1);
        }
        for (int slot = 0; slot < 10; slot++) {
            x.drop(slot);
        }
        x.ask(0);
        x.deliver(0);
        due("7 a ballot of term 5", x.slot(0, 3), 5);
        due("7 no", x.slot(0, 4), 0);
        due("7 nothing is sent", x.deliver(0), 0);
        keeper("7 it follows", x, 0, 5, NONE, 0);
        due("7 no ballots", x.keeper(0, 7), 0);
    }

    private static void ballotOfOneThatDoesNotAsk() {
        Counted x = Check.made(3);
        x.ask(0);
        x.deliver(0);
        x.fall(0);
        x.rise(0);
        due("7 a yes of its term", x.slot(0, 4), 1);
        due("7 nothing is sent", x.deliver(0), 0);
        keeper("7 it follows", x, 0, 1, 0, 0);
        due("7 no ballots", x.keeper(0, 7), 0);
    }

    private static void ballotCountsOnce() {
        Counted x = Check.made(5);
        x.ask(0);
        x.deliver(0);
        x.twice(0);
        x.deliver(0);
        due("7 two ballots", x.keeper(0, 7), 3);
        x.deliver(4);
        due("7 still two", x.keeper(0, 7), 3);
        keeper("7 it still asks", x, 0, 1, 0, 1);
    }

    private static void ballotBehindLeading() {
        Counted x = Check.made(3);
        x.ask(0);
        x.deliver(0);
        x.deliver(1);
        x.deliver(0);
        due("7 leads with two", x.keeper(0, 7), 3);
        x.command(0, 0, 1, 0, 0, 1);
        x.append(0, 1);
        due("7 the third", x.slot(1, 4), 1);
        x.deliver(1);
        due("7 it does not ask any more", x.keeper(0, 7), 3);
        due("7 it leads as before", x.keeper(0, 8), 1);
        due("7 next as before", x.peer(0, 1, 0), 1);
    }

    private static void ballotOfNo() {
        Counted x = Check.made(3);
        x.ask(0);
        x.ask(1);
        x.deliver(0);
        due("7 no", x.slot(0, 4), 0);
        due("7 nothing is sent", x.deliver(0), 0);
        due("7 one ballot", x.keeper(0, 7), 1);
        keeper("7 it still asks", x, 0, 1, 0, 1);
    }

    /** An answer, an ask, an append: each brings its greater term; a vote is none, but for what an ask gets. */
    private static void greaterTermOfEachKind() {
        Counted x = Check.led(3);
        x.command(0, 0, 1, 0, 0, 1);
        Check.pass(x, 0, 1);
        x.fold(0, 1);
        x.ask(2);
        x.drop(0);
        x.drop(1);
        keeper("7 asks in term 2", x, 2, 2, 2, 1);
        x.append(0, 2);
        x.deliver(0);
        due("7 answer", x.slot(0, 0), 3);
        x.deliver(0);
        keeper("7 a greater term by an answer", x, 0, 2, NONE, 0);
        x.ask(0);
        x.ask(0);
        for (int slot = 0; slot < 2; slot++) {
            x.drop(slot);
        }
        x.deliver(2);
        x.deliver(0);
        keeper("7 a greater term by an ask", x, 1, 4, 0, 0);
        keeper("7 leads", x, 0, 4, 0, 2);
        x.drop(3);
        x.command(0, 0, 2, 0, 0, 1);
        x.append(0, 2);
        due("7 append", x.slot(0, 0), 2);
        x.deliver(0);
        keeper("7 a greater term by an append", x, 2, 4, NONE, 0);
        x.deliver(0);
        due("7 next is folded", x.peer(0, 2, 0), 1);
        x.fall(2);
        x.rise(2);
        x.append(0, 2);
        due("7 folding", x.slot(0, 0), 4);
        x.deliver(0);
        keeper("7 no greater one by a folding", x, 2, 4, NONE, 0);
        due("7 folded", x.keeper(2, 3), 1);
    }

    private static void greaterTermByFolding() {
        for (int role = 0; role <= 2; role++) {
            Counted x = Check.made(3);
            if (role > 0) {
                x.ask(2);
            }
            if (role > 1) {
                x.deliver(0);
                x.deliver(0);
            }
            x.drop(0);
            x.drop(1);
            due("7 its role before", x.keeper(2, 2), role);
            x.ask(0);
            x.ask(0);
            x.drop(0);
            x.drop(1);
            x.drop(3);
            x.deliver(2);
            x.deliver(0);
            x.command(0, 0, 1, 0, 0, 1);
            Check.pass(x, 0, 1);
            x.fold(0, 1);
            x.append(0, 2);
            due("7 folding", x.slot(0, 0), 4);
            int greater = x.slot(0, 3);
            due("7 its term is greater", greater > x.keeper(2, 0), true);
            x.deliver(0);
            keeper("7 a greater term by a folding", x, 2, greater, NONE, 0);
            due("7 folded", x.keeper(2, 3), 1);
            due("7 yes", x.slot(0, 4), 1);
        }
    }
}
