/** One method or more for each promise of the document: ordinary inputs, its edges, and wrong inputs. */
public final class PromisesTest {
    private static final int NONE = LogKeepers.NONE;
    private static final int GAP = LogKeepers.GAP;
    private static final int KEEPER = 0x6b656570;
    private static final Check CHECK = new Check("PromisesTest");

    private static void due(String what, long got, long want) {
        CHECK.due(what, got, want);
    }

    private static void due(String what, boolean got, boolean want) {
        CHECK.due(what, got, want);
    }

    public static void main(String[] args) {
        promise1();
        promise2and3();
        promise4();
        promise4AllAsAtFirst();
        promise4and5Faults();
        promise6();
        promise6FullPost();
        promise7Asks();
        promise7OldTerms();
        promise7Appends();
        promise7AppendNoRoom();
        promise7AppendOfFolded();
        promise7Folding();
        promise7Answers();
        promise7Done();
        promise8and9();
        promise10and11();
        promise12();
        promise12Whats();
        promise13();
        promise14();
        promise15and16();
        promise16OverTerms();
        promise17();
        promise18to20();
        promise21();
        promise22();
        promise23and24();
        promise25and26();
        promise27and28();
        promise28Reads();
        promise29();
        CHECK.finish();
    }

    private static void promise1() {
        Counted x = new Counted();
        for (int what = 0; what <= 7; what++) {
            due("1 about(" + what + ")", x.about(what), 0);
        }
        due("1 fault(0)", x.fault(0), 0);
        due("1 fault(1)", x.fault(1), NONE);
        due("1 command", x.command(0, 0, 1, 0, 0, 0), NONE);
        due("1 append", x.append(0, 1), NONE);
        due("1 fold", x.fold(0, 1), NONE);
        due("1 read", x.read(0, 0), NONE);
        due("1 good", x.good(0), GAP);
        due("1 state", x.state(0, 0), GAP);
        due("1 client", x.client(0, 0, 0), GAP);
        due("1 peer", x.peer(0, 1, 0), NONE);
        due("1 slot", x.slot(0, 0), NONE);
        due("1 drop", x.drop(0), NONE);
        due("1 twice", x.twice(0), NONE);
        due("1 hush", x.hush(), 0);
        due("1 back", x.back(0), NONE);
        due("NONE", NONE, -1);
        due("GAP", GAP, -1000000);
    }

    private static void promise2and3() {
        Counted x = new Counted();
        for (int i = 1; i <= 20; i++) {
            due("2 feed", x.feed(KEEPER, 0, 0, 0, 0), 20 * i);
        }
        due("2 feed, 21st", x.feed(0, 0, 0, 0, 0), NONE);
        due("2 length", x.about(6), 400);
        due("3 end(401)", x.end(401), NONE);
        due("3 end(-1)", x.end(-1), NONE);
        due("3 end(400)", x.end(400), 400);
        due("3 end(381)", x.end(381), 381);
        due("2 feed beyond", x.feed(0, 0, 0, 0, 0), NONE);
        due("3 end(380)", x.end(380), 380);
        due("2 feed to the brim", x.feed(0, 0, 0, 0, 0), 400);
        due("3 end(0)", x.end(0), 0);
        due("3 end(1)", x.end(1), NONE);
        due("3 length", x.about(6), 0);
        x.feed(KEEPER, 0x65722061, 0x3b202020, 0x20202020, 0x0a20200a);
        due("2 highest first", x.keepers(), 1);
    }

    private static void promise4() {
        Counted x = Check.led(3);
        x.command(0, 1, 1, 0, 0, 7);
        Check.pass(x, 0, 1);
        x.read(0, 0);
        x.append(0, 2);
        x.image(0);
        x.note(0, 1, 0, 5, 0);
        Check.lay(x, "keeper a b;");
        due("4 fault", x.keepers(), NONE);
        due("4 tape", x.about(6), 0);
        due("4 keepers stay", x.about(0), 3);
        due("4 letters stay", x.about(3), 1);
        due("4 reads stay", x.about(4), 1);
        due("4 boxes stay", x.back(0), 1);
        due("4 role stays", x.keeper(0, 2), 2);
        Check.lay(x, "keeper one;keeper two silent;keeper three;");
        due("4 new", x.keepers(), 3);
        due("4 tape empty", x.about(6), 0);
        due("4 no letters", x.about(3), 0);
        due("4 no reads", x.about(4), 0);
        due("4 history stays", x.about(5), 1);
        due("4 boxes empty", x.back(0), NONE);
        int[] first = {0, NONE, 0, 0, 0, 0, 0, 0, 0, 1};
        for (int what = 0; what < first.length; what++) {
            due("4 keeper(0, " + what + ")", x.keeper(0, what), first[what]);
        }
        due("4 silent", x.keeper(1, 9), 0);
        due("4 voters", x.about(1), 2);
        due("4 cell", x.state(0, 0), 0);
        due("4 client", x.client(0, 1, 0), 0);
        due("4 entry", x.entry(0, 1, 0), GAP);
    }

    private static void promise4AllAsAtFirst() {
        Counted x = Check.led(3);
        x.command(0, 1, 1, 0, 0, 7);
        Check.pass(x, 0, 1);
        x.fold(0, 1);
        x.read(0, 0);
        Check.pass(x, 0, 1);
        due("4 good before", x.good(0), 7);
        x.fall(0);
        Check.lay(x, "keeper a;keeper b;");
        due("4 keepers", x.keepers(), 2);
        due("4 not fallen", x.keeper(0, 6), 0);
        due("4 not folded", x.keeper(0, 3), 0);
        x.fall(0);
        due("4 nothing behind the fold", x.state(0, 0), 0);
        due("4 no client there", x.client(0, 1, 0), 0);
        x.rise(0);
        due("4 term", x.ask(0), 1);
        due("4 term of last", x.slot(0, 5), 0);
        Check.deliverAll(x);
        due("4 no read is left", x.good(0), GAP);
        due("4 round", x.keeper(0, 8), 0);
        x.command(0, 1, 1, 0, 0, 8);
        Check.pass(x, 0, 1);
        due("4 counts anew", x.state(0, 0), 8);
        due("4 no read is left", x.good(0), GAP);
        due("15 reads from 0 on", x.read(0, 0), 0);
    }

    private static void text(String text, int want, int fault, int place) {
        Counted x = new Counted();
        Check.lay(x, text);
        due("4 '" + text + "'", x.keepers(), want);
        due("5 fault of '" + text + "'", x.fault(0), fault);
        due("5 place of '" + text + "'", x.fault(1), place);
        due("5 another what", x.fault(2), NONE);
        due("5 another what", x.fault(-1), NONE);
    }

    private static void promise4and5Faults() {
        text("keeper a;", 1, 0, NONE);
        text(" \nkeeper\na ; keeper b silent ;\n", 2, 0, NONE);
        text("keeper a;keeper b;keeper c;keeper d;keeper e;keeper f;keeper g;", 7, 0, NONE);
        text("keeper a;keeper b;keeper c;keeper d;keeper e;keeper f;keeper g; keeper h;", NONE, 2, 64);
        text("keeper a;keeper b;keeper c;keeper d;keeper e;keeper f;keeper g; keeper!", NONE, 2, 64);
        text("keeper a;keeper b;keeper c;keeper d;keeper e;keeper f;keeper g; !", NONE, 1, 64);
        text("", NONE, 4, 0);
        text(" \n ", NONE, 4, 3);
        text("keeper a silent; ", NONE, 4, 17);
        text("keeper a silent;keeper b silent;", NONE, 4, 32);
        text("keepera;", NONE, 2, 0);
        text("keeper;", NONE, 2, 6);
        text("keeper keeper;", NONE, 2, 7);
        text("keeper silent;", NONE, 2, 7);
        text("silent a;", NONE, 2, 0);
        text(";", NONE, 2, 0);
        text("keeper a;;", NONE, 2, 9);
        text("keeper a", NONE, 2, 8);
        text("keeper a ", NONE, 2, 9);
        text("keeper", NONE, 2, 6);
        text("keeper a silent", NONE, 2, 15);
        text("keeper a silent silent;", NONE, 2, 16);
        text("keeper a keeper b;", NONE, 2, 9);
        text("keeper a;keeper a;", NONE, 3, 16);
        text("keeper a;keeper b;keeper a silent", NONE, 3, 25);
        text("keeper ab;keeper a;keeper abc;", 3, 0, NONE);
        text("keeper A;", NONE, 1, 7);
        text("keeper a1;", NONE, 1, 8);
        text("keeper a\t;", NONE, 1, 8);
        text("keeper a" + (char) 225 + ";", NONE, 1, 8);
        text("!", NONE, 1, 0);
        text("keeper a silent;!", NONE, 1, 16);
        text("keeper abcdefgh;", 1, 0, NONE);
        text("keeper abcdefgh silent;keeper b;", 2, 0, NONE);
        text("keeper abcdefghi;", NONE, 1, 7);
        text("keeper abcdefghi", NONE, 1, 7);
        text("keeper abcdefghi" + (char) 0, NONE, 1, 7);
        text("keeper abcdefgh" + (char) 0, NONE, 1, 15);
        text("keeper abcdefghsilent;keeper b;", NONE, 1, 7);
        text("keeper a abcdefghi;", NONE, 1, 9);
        text("keeper a silentsilent;", NONE, 1, 9);
        text("keeper a;keeperkeeper b;", NONE, 1, 9);
        text("keeperxxx a;", NONE, 1, 0);
        text("keeperxx a;", NONE, 2, 0);
        text("; abcdefghi", NONE, 2, 0);
        text("keeper a;keeper a abcdefghi", NONE, 3, 16);
        text("keeper a;keeper b;keeper c;keeper d;keeper e;keeper f;keeper g; keeperhhh", NONE, 1, 64);
        text("keeper " + "z".repeat(393), NONE, 1, 7);
        text("z".repeat(400), NONE, 1, 0);
        text("keepers a;", NONE, 2, 0);
        text("keeper a{", NONE, 1, 8);
        text("keeper a`", NONE, 1, 8);
        Counted x = Check.made(1);
        Check.lay(x, ";");
        x.keepers();
        due("5 latest", x.fault(0), 2);
        Check.lay(x, "keeper a;");
        x.keepers();
        due("5 none again", x.fault(0), 0);
        due("5 no place again", x.fault(1), NONE);
    }

    private static void promise6() {
        Counted x = Check.made("keeper a;keeper b silent;keeper c;keeper d;");
        due("6 silent", x.ask(1), NONE);
        due("6 none such", x.ask(4), NONE);
        due("6 none such", x.ask(-1), NONE);
        x.fall(0);
        due("6 fallen", x.ask(0), NONE);
        x.rise(0);
        due("6 ask", x.ask(2), 1);
        due("6 letters", x.about(3), 2);
        due("6 to the first", x.slot(0, 2), 0);
        due("6 to the next", x.slot(1, 2), 3);
        due("6 vote", x.keeper(2, 1), 2);
        due("6 asks", x.keeper(2, 2), 1);
        due("6 ballots", x.keeper(2, 7), 4);
        due("6 again", x.ask(2), 2);
        due("6 letters", x.about(3), 4);
        due("6 term of the new one", x.slot(2, 3), 2);
        x.deliver(0);
        x.deliver(0);
        due("6 ballot of an old term", x.keeper(2, 7), 4);
        due("6 still asks", x.keeper(2, 2), 1);
        Check.deliverAll(x);
        due("6 leads", x.keeper(2, 2), 2);
        due("6 one that leads", x.ask(2), NONE);
        due("6 nothing sent", x.about(3), 0);
    }

    private static void promise6FullPost() {
        Counted x = Check.made(3);
        for (int i = 1; i <= 19; i++) {
            x.ask(0);
        }
        due("6 letters", x.about(3), 38);
        x.twice(0);
        due("6 one slot is not enough", x.ask(0), NONE);
        due("6 nothing done", x.keeper(0, 0), 19);
        x.drop(5);
        due("6 two slots are", x.ask(0), 20);
        due("6 least slot", x.slot(5, 3), 20);
        due("6 last slot", x.slot(39, 3), 20);
        Counted y = Check.made("keeper a;keeper b silent;");
        due("6 alone", y.ask(0), 1);
        for (int i = 0; i < 40; i++) {
            due("13 slot", y.append(0, 1), i);
        }
        y.fall(0);
        y.rise(0);
        due("6 alone, with a full post", y.ask(0), 2);
        due("6 leads", y.keeper(0, 2), 2);
    }

    private static void promise7Asks() {
        Counted x = Check.made(5);
        due("7 empty", x.deliver(0), NONE);
        due("7 none", x.deliver(-1), NONE);
        due("7 none", x.deliver(40), NONE);
        x.ask(0);
        x.ask(1);
        x.fall(2);
        due("7 fallen", x.deliver(1), 0);
        due("7 left", x.slot(1, 0), NONE);
        due("7 term stays", x.keeper(2, 0), 0);
        due("7 has voted for itself", x.deliver(0), 1);
        due("7 no", x.slot(0, 4), 0);
        due("7 no", x.deliver(0), 0);
        due("7 ballots", x.keeper(0, 7), 1);
        due("7 yes", x.deliver(2), 1);
        due("7 vote", x.keeper(3, 1), 0);
        due("7 second of a term", x.deliver(6), 1);
        due("7 no", x.slot(1, 4), 0);
        due("7 number of a ballot", x.slot(1, 5), 0);
        due("7 yes", x.slot(0, 4), 1);
        x.deliver(0);
        due("7 two of five", x.keeper(0, 2), 1);
        due("7 ballots", x.keeper(0, 7), 9);
        x.deliver(3);
        x.deliver(0);
        due("7 three of five", x.keeper(0, 2), 2);
        due("7 ballots", x.keeper(0, 7), 25);
        due("7 the other one", x.keeper(1, 2), 1);
        x.deliver(x.append(0, 1));
        due("7 it follows", x.keeper(1, 2), 0);
        due("7 no ballots", x.keeper(1, 7), 0);
        due("7 vote stays", x.keeper(1, 1), 1);
    }

    private static void promise7OldTerms() {
        Counted x = Check.led(3);
        x.ask(1);
        x.ask(1);
        due("7 a greater term", x.deliver(0), 1);
        due("7 it follows", x.keeper(0, 2), 0);
        due("7 its term", x.keeper(0, 0), 2);
        due("7 its vote", x.keeper(0, 1), 1);
        due("7 round", x.keeper(0, 8), 0);
        due("7 ballots", x.keeper(0, 7), 0);
        Check.deliverAll(x);
        due("7 leads", x.keeper(1, 2), 2);
        Counted y = Check.led(3);
        y.append(0, 2);
        y.ask(1);
        y.deliver(2);
        due("7 term before", y.keeper(2, 0), 2);
        due("7 append of a lesser term", y.deliver(0), 1);
        due("7 kind", y.slot(0, 0), 3);
        due("7 its term", y.slot(0, 3), 2);
        due("7 no", y.slot(0, 4), 0);
        due("7 0", y.slot(0, 5), 0);
        due("7 round", y.slot(0, 8), 1);
        due("7 answer of a greater term", y.deliver(0), 0);
        due("7 it follows", y.keeper(0, 2), 0);
        due("7 vote", y.keeper(0, 1), NONE);
        due("7 term", y.keeper(0, 0), 2);
    }

    /** Two rows that part behind entry 2: keeper 0 has 5 of term 1, keeper 1 leads in term 2 with 3. */
    private static Counted parted() {
        Counted x = Check.led(3);
        x.command(0, 0, 1, 0, 0, 1);
        x.command(0, 0, 2, 0, 0, 2);
        Check.pass(x, 0, 1);
        Check.pass(x, 0, 2);
        for (int i = 3; i <= 5; i++) {
            x.command(0, 0, i, 0, 0, i);
        }
        x.ask(1);
        x.deliver(1);
        x.deliver(1);
        x.drop(0);
        x.command(1, 1, 1, 0, 1, 9);
        return x;
    }

    private static void promise7Appends() {
        Counted x = parted();
        due("7 last of the old one", x.keeper(0, 4), 5);
        due("7 done of the old one", x.keeper(0, 5), 2);
        x.append(1, 0);
        due("7 ahead", x.slot(0, 4), 2);
        x.deliver(0);
        due("7 its own are cut", x.keeper(0, 4), 3);
        due("7 the new one", x.entry(0, 3, 0), 2);
        due("7 yes", x.slot(0, 4), 1);
        due("7 number", x.slot(0, 5), 3);
        x.deliver(0);
        due("7 done", x.keeper(1, 5), 3);
        Counted y = parted();
        y.fall(0);
        y.fall(1);
        y.rise(1);
        y.rise(0);
        y.ask(1);
        y.drop(0);
        y.deliver(1);
        y.deliver(0);
        due("7 leads again", y.keeper(1, 2), 2);
        due("7 next", y.peer(1, 0, 0), 4);
        due("7 fallen done", y.keeper(0, 5), 0);
        y.append(1, 0);
        due("7 ahead", y.slot(0, 4), 3);
        due("7 its term", y.slot(0, 5), 2);
        y.deliver(0);
        due("7 of another term: cut", y.keeper(0, 4), 2);
        due("7 no", y.slot(0, 4), 0);
        due("7 number", y.slot(0, 5), 2);
        y.deliver(0);
        due("7 next", y.peer(1, 0, 0), 3);
        Counted z = Check.led(3);
        for (int i = 1; i <= 7; i++) {
            z.command(0, 0, i, 1, 0, 1);
        }
        due("7 five at most", z.slot(z.append(0, 1), 6), 5);
        z.deliver(0);
        z.deliver(0);
        z.append(0, 1);
        due("7 two", z.slot(0, 6), 2);
        z.twice(0);
        due("7 done told", z.slot(0, 7), 5);
        z.deliver(0);
        due("7 done", z.keeper(1, 5), 5);
        due("7 cell", z.state(1, 0), 5);
        z.deliver(1);
        due("7 twice", z.keeper(1, 4), 7);
        due("7 as before", z.slot(1, 5), 7);
    }

    private static void promise7AppendNoRoom() {
        Counted x = Check.led(3);
        for (int i = 1; i <= 40; i++) {
            due("12 number", x.command(0, 0, i, 1, 0, 1), i);
            if (i % 5 == 0) {
                Check.pass(x, 0, 1);
            }
        }
        due("12 no room", x.command(0, 0, 41, 1, 0, 1), NONE);
        due("14 fold", x.fold(0, 38), 2);
        due("12 room", x.command(0, 0, 41, 1, 0, 1), 41);
        x.append(0, 1);
        due("7 follower full", x.deliver(0), 1);
        due("7 yes", x.slot(0, 4), 1);
        due("7 as far as ahead", x.slot(0, 5), 40);
        due("7 last", x.keeper(1, 4), 40);
        x.deliver(0);
        due("7 next", x.peer(0, 1, 0), 41);
        due("7 follower folds", x.fold(1, 39), 1);
        x.command(0, 0, 42, 1, 0, 1);
        Check.pass(x, 0, 1);
        due("7 last", x.keeper(1, 4), 42);
        due("7 done of the leader", x.keeper(0, 5), 42);
        due("7 state", x.state(0, 0), 42);
    }

    private static void promise7AppendOfFolded() {
        Counted x = Check.led(3);
        for (int i = 1; i <= 6; i++) {
            x.command(0, 0, i, 1, 0, 1);
        }
        x.append(0, 1);
        x.twice(0);
        x.deliver(0);
        x.deliver(0);
        Check.pass(x, 0, 2);
        x.append(0, 1);
        x.deliver(0);
        x.deliver(0);
        due("7 done", x.keeper(1, 5), 5);
        due("14 fold", x.fold(1, 5), 1);
        due("7 late", x.deliver(1), 1);
        due("7 yes", x.slot(0, 4), 1);
        due("7 passed over", x.slot(0, 5), 5);
        due("7 last stays", x.keeper(1, 4), 6);
    }

    private static void promise7Folding() {
        Counted x = Check.led(3);
        for (int i = 1; i <= 4; i++) {
            x.command(0, 2, i, 1, 3, i);
        }
        x.append(0, 2);
        x.deliver(0);
        x.drop(0);
        Check.pass(x, 0, 1);
        due("14 fold", x.fold(0, 3), 1);
        due("21 next", x.peer(0, 2, 0), 1);
        x.append(0, 2);
        due("7 folding", x.slot(0, 0), 4);
        x.twice(0);
        due("7 has all", x.keeper(2, 4), 4);
        due("7 nothing done", x.keeper(2, 5), 0);
        due("7 it answers", x.deliver(0), 1);
        due("7 done", x.keeper(2, 5), 3);
        due("7 folded", x.keeper(2, 3), 3);
        due("7 one behind it stays", x.keeper(2, 4), 4);
        due("7 it", x.entry(2, 4, 5), 4);
        due("7 cell", x.state(2, 3), 6);
        due("7 client", x.client(2, 2, 1), 6);
        due("7 yes", x.slot(0, 4), 1);
        due("7 number", x.slot(0, 5), 3);
        x.deliver(0);
        due("7 next", x.peer(0, 2, 0), 4);
        Check.pass(x, 0, 2);
        due("7 done", x.keeper(2, 5), 4);
        due("7 late folding", x.deliver(1), 1);
        due("7 yes", x.slot(0, 4), 1);
        due("7 number", x.slot(0, 5), 3);
        due("7 nothing changed", x.keeper(2, 5), 4);
        due("7 nothing changed", x.state(2, 3), 10);
        foldingOverOtherEntries();
    }

    private static void foldingOverOtherEntries() {
        Counted x = parted();
        Check.pass(x, 1, 2);
        due("7 done", x.keeper(1, 5), 3);
        x.fold(1, 3);
        x.fall(0);
        x.rise(0);
        x.fall(1);
        x.rise(1);
        x.ask(1);
        x.drop(0);
        x.deliver(1);
        x.deliver(0);
        x.append(1, 0);
        due("7 ahead is the fold", x.slot(0, 0), 2);
        due("7 its term", x.slot(0, 5), 2);
        x.deliver(0);
        due("7 no", x.slot(0, 4), 0);
        x.deliver(0);
        due("7 next", x.peer(1, 0, 0), 3);
        x.append(1, 0);
        due("7 folding", x.slot(0, 0), 4);
        x.deliver(0);
        due("7 none behind", x.keeper(0, 4), 3);
        due("7 folded", x.keeper(0, 3), 3);
        due("7 cell", x.state(0, 1), 9);
        x.fall(0);
        due("10 the fold is saved", x.state(0, 1), 9);
        foldingWithoutTheEntry();
    }

    /** Entry 3 is there, but of another term: those behind it go. */
    private static void foldingWithoutTheEntry() {
        Counted x = parted();
        Check.pass(x, 1, 2);
        x.fold(1, 3);
        due("7 next", x.peer(1, 0, 0), 3);
        x.append(1, 0);
        due("7 folding", x.slot(0, 0), 4);
        due("7 other entries", x.keeper(0, 4), 5);
        x.deliver(0);
        due("7 those are gone", x.keeper(0, 4), 3);
        due("7 term", x.keeper(0, 0), 2);
        due("7 done", x.keeper(0, 5), 3);
    }

    private static void promise7Answers() {
        Counted x = Check.led(3);
        for (int i = 1; i <= 3; i++) {
            x.command(0, 0, i, 1, 0, 1);
        }
        Check.pass(x, 0, 1);
        x.ask(1);
        x.drop(0);
        x.deliver(1);
        due("7 keeper 2 has less", x.slot(0, 4), 1);
        x.deliver(0);
        due("7 next", x.peer(1, 2, 0), 4);
        x.append(1, 2);
        x.deliver(0);
        due("7 ahead is above last", x.slot(0, 4), 0);
        due("7 last", x.slot(0, 5), 0);
        x.twice(0);
        x.deliver(0);
        due("7 next", x.peer(1, 2, 0), 1);
        due("7 answered", x.peer(1, 2, 2), 1);
        x.append(1, 2);
        x.append(1, 2);
        x.deliver(2);
        x.deliver(2);
        due("7 round 3", x.peer(1, 2, 2), 3);
        due("7 sure", x.peer(1, 2, 1), 3);
        due("7 next", x.peer(1, 2, 0), 4);
        x.deliver(1);
        due("7 late no", x.peer(1, 2, 0), 1);
        due("7 sure stays", x.peer(1, 2, 1), 3);
        due("7 the greatest round stays", x.peer(1, 2, 2), 3);
        x.twice(0);
        x.deliver(0);
        x.deliver(0);
        due("7 yes of what it was sure of", x.peer(1, 2, 0), 4);
        due("7 entries of older terms are not done", x.keeper(1, 5), 0);
        x.ask(2);
        x.deliver(1);
        due("7 late answer before", x.keeper(1, 2), 2);
    }

    private static void promise7Done() {
        Counted x = Check.made("keeper a;keeper b;keeper c;keeper d silent;keeper e silent;");
        x.ask(0);
        Check.deliverAll(x);
        x.command(0, 0, 1, 0, 0, 1);
        Check.pass(x, 0, 3);
        Check.pass(x, 0, 4);
        due("7 silent ones are sure", x.peer(0, 3, 1), 1);
        due("7 they don't count", x.keeper(0, 5), 0);
        due("7 silent ones have it", x.keeper(3, 4), 1);
        Check.pass(x, 0, 1);
        due("7 most of the voters", x.keeper(0, 5), 1);
        Counted y = Check.led(5);
        y.command(0, 0, 1, 0, 0, 1);
        y.command(0, 0, 2, 0, 0, 2);
        Check.pass(y, 0, 1);
        y.command(0, 0, 3, 0, 0, 3);
        Check.pass(y, 0, 2);
        due("7 the greatest of most", y.keeper(0, 5), 2);
        Check.pass(y, 0, 3);
        due("7 three of five", y.keeper(0, 5), 3);
        due("7 answer", y.client(0, 0, 1), 2);
        Counted z = parted();
        Check.pass(z, 1, 2);
        due("7 with one of its own, the older ones", z.keeper(1, 5), 3);
        due("7 cells", z.state(1, 0), 2);
    }

    private static void promise8and9() {
        Counted x = Check.made(3);
        due("8 empty", x.drop(0), NONE);
        due("8 none", x.drop(-1), NONE);
        due("8 none", x.drop(40), NONE);
        due("9 empty", x.twice(0), NONE);
        due("9 none", x.twice(-1), NONE);
        due("9 none", x.twice(40), NONE);
        x.ask(0);
        due("9 twice", x.twice(1), 2);
        for (int what = 0; what <= 8; what++) {
            due("9 the same " + what, x.slot(2, what), x.slot(1, what));
        }
        due("8 drop", x.drop(0), 0);
        due("8 empty then", x.drop(0), NONE);
        due("8 letters", x.about(3), 2);
        due("9 least slot", x.twice(2), 0);
        x.deliver(0);
        due("8 ballot", x.drop(0), 1);
        Check.deliverAll(x);
        x.command(0, 0, 1, 0, 0, 1);
        for (int i = 0; i < 40; i++) {
            due("13 append", x.append(0, 1), i);
        }
        due("9 no slot", x.twice(0), NONE);
        due("13 no slot", x.append(0, 1), NONE);
        due("13 nothing done", x.keeper(0, 8), 40);
        due("8 append", x.drop(7), 2);
        due("9 the one slot", x.twice(39), 7);
        due("9 its round", x.slot(7, 8), 40);
        x.deliver(7);
        due("8 answer", x.drop(7), 3);
        Counted y = Check.led(3);
        y.command(0, 0, 1, 0, 0, 4);
        y.append(0, 1);
        y.twice(0);
        y.drop(0);
        y.deliver(1);
        due("9 entries too", y.entry(1, 1, 5), 4);
        y.deliver(0);
        y.fold(0, 1);
        y.append(0, 2);
        y.twice(0);
        due("8 folding", y.drop(0), 4);
        y.deliver(1);
        due("9 the state too", y.state(2, 0), 4);
    }

    private static void promise10and11() {
        Counted x = Check.led(3);
        due("10 none", x.fall(3), false);
        due("10 none", x.fall(-1), false);
        due("11 none", x.rise(3), false);
        due("11 none", x.rise(-1), false);
        due("11 not fallen", x.rise(0), false);
        for (int i = 1; i <= 3; i++) {
            x.command(0, 1, i, 1, 2, 10);
        }
        Check.pass(x, 0, 1);
        x.fold(0, 2);
        due("10 done before", x.keeper(0, 5), 3);
        due("10 fall", x.fall(0), true);
        due("10 again", x.fall(0), false);
        due("10 follows", x.keeper(0, 2), 0);
        due("10 done", x.keeper(0, 5), 2);
        due("10 cell", x.state(0, 2), 20);
        due("10 client", x.client(0, 1, 0), 2);
        due("10 answer", x.client(0, 1, 1), 20);
        due("10 term stays", x.keeper(0, 0), 1);
        due("10 vote stays", x.keeper(0, 1), 0);
        due("10 entries stay", x.keeper(0, 4), 3);
        due("10 entry stays", x.entry(0, 3, 2), 3);
        due("10 ballots", x.keeper(0, 7), 0);
        due("10 fallen", x.keeper(0, 6), 1);
        due("10 command", x.command(0, 0, 1, 0, 0, 0), NONE);
        due("10 append", x.append(0, 1), NONE);
        due("10 fold", x.fold(0, 3), NONE);
        due("10 read", x.read(0, 0), NONE);
        due("11 rise", x.rise(0), true);
        due("11 again", x.rise(0), false);
        due("11 not fallen", x.keeper(0, 6), 0);
        due("11 follows", x.keeper(0, 2), 0);
        due("11 done", x.keeper(0, 5), 2);
        x.ask(1);
        x.deliver(0);
        due("10 yes again", x.slot(0, 4), 1);
        x.fall(2);
        due("10 others stay", x.keeper(1, 2), 1);
        x.fall(1);
        due("10 one that asks", x.keeper(1, 7), 0);
        x.rise(1);
        x.deliver(0);
        due("11 it asks no more", x.keeper(1, 2), 0);
    }

    private static void promise12() {
        Counted x = Check.led(3);
        due("12 follows", x.command(1, 0, 1, 0, 0, 0), NONE);
        due("12 none", x.command(3, 0, 1, 0, 0, 0), NONE);
        due("12 none", x.command(-1, 0, 1, 0, 0, 0), NONE);
        due("12 client", x.command(0, -1, 1, 0, 0, 0), NONE);
        due("12 client", x.command(0, 6, 1, 0, 0, 0), NONE);
        due("12 number", x.command(0, 0, 0, 0, 0, 0), NONE);
        due("12 number", x.command(0, 0, 100, 0, 0, 0), NONE);
        due("12 what", x.command(0, 0, 1, -1, 0, 0), NONE);
        due("12 what", x.command(0, 0, 1, 4, 0, 0), NONE);
        due("12 cell", x.command(0, 0, 1, 0, -1, 0), NONE);
        due("12 cell", x.command(0, 0, 1, 0, 8, 0), NONE);
        due("12 nothing done", x.keeper(0, 4), 0);
        due("12 edges", x.command(0, 5, 99, 3, 7, Integer.MIN_VALUE), 1);
        int[] parts = {1, 5, 99, 3, 7, Integer.MIN_VALUE};
        for (int what = 0; what < 6; what++) {
            due("12 part " + what, x.entry(0, 1, what), parts[what]);
        }
        x.ask(1);
        due("12 one that asks", x.command(1, 0, 1, 0, 0, 0), NONE);
    }

    private static void counted(Counted x, int what, int value, int cell, int answer) {
        int number = x.client(0, 0, 0) + 1;
        x.command(0, 0, number, what, 0, value);
        due("12 what " + what + " " + value + ": cell", x.state(0, 0), cell);
        due("12 what " + what + " " + value + ": answer", x.client(0, 0, 1), answer);
    }

    private static void promise12Whats() {
        Counted x = Check.led(1);
        int max = Integer.MAX_VALUE;
        counted(x, 3, 0, 0, 1);
        counted(x, 3, 7, 7, 1);
        counted(x, 3, 8, 7, 0);
        counted(x, 0, 5, 5, 7);
        counted(x, 1, -7, -2, -2);
        counted(x, 2, -3, -2, -2);
        counted(x, 2, -2, -2, -2);
        counted(x, 2, 4, 4, 4);
        counted(x, 0, max, max, 4);
        counted(x, 1, 1, Integer.MIN_VALUE, Integer.MIN_VALUE);
        counted(x, 0, 0, 0, Integer.MIN_VALUE);
        int before = x.client(0, 0, 0);
        x.command(0, 0, before, 0, 0, 77);
        due("12 the same number", x.state(0, 0), 0);
        x.command(0, 0, before - 1, 0, 0, 77);
        due("12 a lesser number", x.state(0, 0), 0);
        due("12 latest stays", x.client(0, 0, 0), before);
        due("12 answer stays", x.client(0, 0, 1), Integer.MIN_VALUE);
        x.command(0, 1, 1, 0, 0, 77);
        due("12 another client", x.state(0, 0), 77);
        x.command(0, 0, 99, 1, 0, 1);
        due("12 a gap in numbers", x.state(0, 0), 78);
        due("12 all done", x.keeper(0, 5), x.keeper(0, 4));
    }

    private static void promise13() {
        Counted x = Check.led(3);
        due("13 itself", x.append(0, 0), NONE);
        due("13 follows", x.append(1, 0), NONE);
        due("13 none", x.append(0, 3), NONE);
        due("13 none", x.append(0, -1), NONE);
        due("13 none", x.append(3, 0), NONE);
        due("13 none", x.append(-1, 0), NONE);
        due("13 no round", x.keeper(0, 8), 0);
        x.command(0, 0, 1, 0, 0, 1);
        due("13 slot", x.append(0, 1), 0);
        due("13 round", x.keeper(0, 8), 1);
        due("13 slot", x.append(0, 2), 1);
        due("13 one round for all", x.keeper(0, 8), 2);
        due("13 round", x.slot(1, 8), 2);
        x.deliver(0);
        x.deliver(0);
        due("13 next is last + 1", x.append(0, 1), 0);
        due("13 ahead", x.slot(0, 4), 1);
        due("13 term of ahead", x.slot(0, 5), 1);
        due("13 no entries", x.slot(0, 6), 0);
        due("13 done", x.slot(0, 7), 1);
        x.fold(0, 1);
        x.append(0, 1);
        due("13 next is behind folded", x.slot(2, 0), 2);
        due("13 ahead is folded", x.slot(2, 4), 1);
        due("13 its term", x.slot(2, 5), 1);
        x.append(0, 2);
        due("13 next is folded", x.slot(3, 0), 4);
        due("13 no entries of a folding", x.slot(3, 6), 0);
        due("13 no done of a folding", x.slot(3, 7), 0);
        due("13 round", x.slot(3, 8), 5);
        x.fall(2);
        due("13 to a fallen one", x.append(0, 2), 4);
    }

    private static void promise14() {
        Counted x = Check.led(3);
        due("14 none", x.fold(0, 0), NONE);
        due("14 none", x.fold(0, 1), NONE);
        for (int i = 1; i <= 5; i++) {
            x.command(0, 0, i, 0, i, i * 10);
        }
        due("14 not done", x.fold(0, 1), NONE);
        Check.pass(x, 0, 1);
        x.command(0, 0, 6, 0, 6, 60);
        due("14 not done", x.fold(0, 6), NONE);
        due("14 no keeper", x.fold(3, 1), NONE);
        due("14 no keeper", x.fold(-1, 1), NONE);
        due("14 fold", x.fold(0, 2), 4);
        due("14 folded", x.keeper(0, 3), 2);
        due("14 not above folded", x.fold(0, 2), NONE);
        due("14 not above folded", x.fold(0, 1), NONE);
        due("14 folded ones are gone", x.entry(0, 2, 0), GAP);
        due("14 the next is there", x.entry(0, 3, 5), 30);
        due("14 the last is there", x.entry(0, 6, 5), 60);
        due("14 the state stays", x.state(0, 5), 50);
        due("14 fold again", x.fold(0, 5), 1);
        due("14 the last is there", x.entry(0, 6, 5), 60);
        x.fall(0);
        due("14 state behind it", x.state(0, 5), 50);
        due("14 not fallen", x.fold(0, 6), NONE);
        Check.pass(x, 0, 1);
        due("14 one that follows, nothing done", x.fold(1, 1), NONE);
    }

    private static void promise15and16() {
        Counted x = Check.led(5);
        due("15 nothing done of its term", x.read(0, 0), NONE);
        x.command(0, 0, 1, 0, 0, GAP);
        Check.pass(x, 0, 1);
        due("15 not done yet", x.read(0, 0), NONE);
        Check.pass(x, 0, 2);
        due("15 follows", x.read(1, 0), NONE);
        due("15 none", x.read(5, 0), NONE);
        due("15 none", x.read(-1, 0), NONE);
        due("15 cell", x.read(0, 8), NONE);
        due("15 cell", x.read(0, -1), NONE);
        x.append(0, 3);
        due("15 read", x.read(0, 1), 0);
        due("16 not yet", x.good(0), GAP);
        x.deliver(0);
        x.deliver(0);
        Check.pass(x, 0, 1);
        due("16 the round ahead of it does not count", x.good(0), GAP);
        Check.pass(x, 0, 2);
        due("16 good", x.good(0), 0);
        due("16 none", x.good(1), GAP);
        due("16 none", x.good(-1), GAP);
        x.command(0, 0, 2, 0, 1, 6);
        due("16 not done", x.good(0), 0);
        Check.pass(x, 0, 1);
        Check.pass(x, 0, 2);
        due("16 the cell as it is", x.good(0), 6);
        due("15 fold", x.fold(0, 2), 0);
        due("15 the latest one done is folded", x.read(0, 1), 1);
        for (int i = 2; i < 40; i++) {
            due("15 number", x.read(0, 1), i);
        }
        due("15 reads", x.about(4), 40);
        due("15 40 at most", x.read(0, 1), NONE);
        x.fall(0);
        due("16 fallen", x.good(0), GAP);
        x.rise(0);
        due("16 it does not lead", x.good(0), GAP);
    }

    private static void promise16OverTerms() {
        Counted x = Check.made("keeper a;keeper b silent;");
        x.ask(0);
        x.command(0, 0, 1, 0, 0, 3);
        due("15 alone", x.read(0, 0), 0);
        due("16 alone", x.good(0), 3);
        x.fall(0);
        x.rise(0);
        x.ask(0);
        due("16 another term", x.good(0), GAP);
        due("15 done is of another term", x.read(0, 0), NONE);
        x.command(0, 0, 2, 0, 0, 4);
        due("16 still another term", x.good(0), GAP);
        due("15 now", x.read(0, 0), 1);
        due("16 now", x.good(1), 4);
        Counted told = Check.made("keeper a;");
        for (int time = 0; time < 2; time++) {
            told.ask(0);
            told.command(0, 0, 1, 0, 0, 3);
            due("16 none of those told ahead", told.good(0), GAP);
            due("15 from 0 on again", told.read(0, 0), 0);
            due("16 its own", told.good(0), 3);
            Check.lay(told, "keeper a;");
            told.keepers();
        }
        Counted y = Check.made("keeper a;keeper b;keeper c;keeper d silent;");
        y.ask(0);
        Check.deliverAll(y);
        y.command(0, 0, 1, 0, 0, 3);
        Check.pass(y, 0, 1);
        y.read(0, 0);
        Check.pass(y, 0, 3);
        due("16 silent ones don't count", y.good(0), GAP);
        y.append(0, 2);
        y.deliver(0);
        due("16 no yet", y.good(0), GAP);
        y.deliver(0);
        due("16 voters do", y.good(0), 3);
        y.ask(2);
        y.deliver(0);
        due("16 leads no more", y.good(0), GAP);
    }

    private static void promise17() {
        Counted x = Check.made("keeper a;keeper b;keeper c silent;");
        for (int what = 0; what <= 9; what++) {
            due("17 none", x.keeper(3, what), -2);
            due("17 none", x.keeper(-1, what), -2);
        }
        due("17 another what", x.keeper(0, 10), -2);
        due("17 another what", x.keeper(0, -1), -2);
        x.ask(1);
        Check.deliverAll(x);
        int[] leads = {1, 1, 2, 0, 0, 0, 0, 3, 0, 1};
        int[] follows = {1, 1, 0, 0, 0, 0, 0, 0, 0, 1};
        int[] silent = {0, NONE, 0, 0, 0, 0, 0, 0, 0, 0};
        for (int what = 0; what <= 9; what++) {
            due("17 leads " + what, x.keeper(1, what), leads[what]);
            due("17 follows " + what, x.keeper(0, what), follows[what]);
            due("17 silent " + what, x.keeper(2, what), silent[what]);
        }
        x.append(1, 2);
        due("17 round", x.keeper(1, 8), 1);
        x.deliver(0);
        due("17 silent ones have a term", x.keeper(2, 0), 1);
        due("17 and no vote", x.keeper(2, 1), NONE);
    }

    private static void promise18to20() {
        Counted x = Check.led(3);
        x.command(0, 3, 4, 1, 2, 6);
        int[] parts = {1, 3, 4, 1, 2, 6};
        for (int what = 0; what < 6; what++) {
            due("18 part", x.entry(0, 1, what), parts[what]);
            due("18 none", x.entry(1, 1, what), GAP);
        }
        due("18 another what", x.entry(0, 1, 6), GAP);
        due("18 another what", x.entry(0, 1, -1), GAP);
        due("18 none", x.entry(0, 0, 0), GAP);
        due("18 none", x.entry(0, 2, 0), GAP);
        due("18 none", x.entry(0, -1, 0), GAP);
        due("18 none", x.entry(0, Integer.MAX_VALUE, 0), GAP);
        due("18 none", x.entry(0, Integer.MIN_VALUE, 0), GAP);
        due("18 no keeper", x.entry(3, 1, 0), GAP);
        due("18 no keeper", x.entry(-1, 1, 0), GAP);
        due("19 not done", x.state(0, 2), 0);
        Check.pass(x, 0, 1);
        due("19 done", x.state(0, 2), 6);
        due("19 another cell", x.state(0, 7), 0);
        due("19 no cell", x.state(0, 8), GAP);
        due("19 no cell", x.state(0, -1), GAP);
        due("19 no keeper", x.state(3, 0), GAP);
        due("19 no keeper", x.state(-1, 0), GAP);
        due("19 not done there", x.state(1, 2), 0);
        due("20 latest", x.client(0, 3, 0), 4);
        due("20 answer", x.client(0, 3, 1), 6);
        due("20 another one", x.client(0, 5, 0), 0);
        due("20 another one", x.client(0, 5, 1), 0);
        due("20 not done there", x.client(1, 3, 0), 0);
        due("20 what", x.client(0, 3, 2), GAP);
        due("20 what", x.client(0, 3, -1), GAP);
        due("20 client", x.client(0, 6, 0), GAP);
        due("20 client", x.client(0, -1, 0), GAP);
        due("20 keeper", x.client(3, 0, 0), GAP);
        due("20 keeper", x.client(-1, 0, 0), GAP);
    }

    private static void promise21() {
        Counted x = Check.led(3);
        x.command(0, 0, 1, 0, 0, 0);
        due("21 next", x.peer(0, 1, 0), 1);
        due("21 sure", x.peer(0, 1, 1), 0);
        due("21 answered", x.peer(0, 1, 2), 0);
        Check.pass(x, 0, 1);
        due("21 next", x.peer(0, 1, 0), 2);
        due("21 sure", x.peer(0, 1, 1), 1);
        due("21 answered", x.peer(0, 1, 2), 1);
        due("21 what", x.peer(0, 1, 3), NONE);
        due("21 what", x.peer(0, 1, -1), NONE);
        due("21 itself", x.peer(0, 0, 0), NONE);
        due("21 none", x.peer(0, 3, 0), NONE);
        due("21 none", x.peer(0, -1, 0), NONE);
        due("21 none", x.peer(3, 0, 0), NONE);
        due("21 none", x.peer(-1, 0, 0), NONE);
        due("21 follows", x.peer(1, 0, 0), NONE);
        x.ask(1);
        due("21 asks", x.peer(1, 0, 0), NONE);
        x.deliver(0);
        x.deliver(0);
        due("21 leads", x.peer(1, 0, 0), 2);
        due("21 sure again 0", x.peer(1, 0, 1), 0);
        due("21 leads no more", x.peer(0, 1, 0), NONE);
        x.fall(1);
        due("21 fallen", x.peer(1, 0, 0), NONE);
    }

    private static void letter(Counted x, int slot, int... want) {
        for (int what = 0; what < want.length; what++) {
            due("22 slot(" + slot + ", " + what + ")", x.slot(slot, what), want[what]);
        }
        due("22 another what", x.slot(slot, 9), NONE);
        due("22 another what", x.slot(slot, -1), NONE);
    }

    private static void promise22() {
        Counted x = Check.led(3);
        x.command(0, 0, 1, 0, 0, 0);
        x.command(0, 0, 2, 0, 0, 0);
        x.append(0, 1);
        letter(x, 0, 2, 0, 1, 1, 0, 0, 2, 0, 1);
        x.deliver(0);
        letter(x, 0, 3, 1, 0, 1, 1, 2, 0, 0, 1);
        x.deliver(0);
        x.fold(0, 2);
        x.append(0, 2);
        letter(x, 0, 4, 0, 2, 1, 2, 1, 0, 0, 2);
        x.ask(1);
        letter(x, 1, 0, 1, 0, 2, 2, 1, 0, 0, 0);
        x.deliver(1);
        letter(x, 1, 1, 0, 1, 2, 1, 0, 0, 0, 0);
        due("22 none", x.slot(-1, 0), NONE);
        due("22 none", x.slot(40, 0), NONE);
        due("22 empty", x.slot(39, 0), NONE);
    }

    private static void promise23and24() {
        Counted x = new Counted();
        due("23 begun", x.note(-1, 0, 0, 0, 0), NONE);
        due("23 ended", x.note(2, 1, 0, 0, 0), NONE);
        due("23 ended", x.note(0, 10000, 0, 0, 0), NONE);
        due("23 what", x.note(0, 0, -1, 0, 0), NONE);
        due("23 what", x.note(0, 0, 4, 0, 0), NONE);
        due("23 nothing", x.about(5), 0);
        due("23 edge", x.note(0, 0, 0, Integer.MIN_VALUE, Integer.MAX_VALUE), 0);
        due("23 edge", x.note(9999, 9999, 3, 0, 0), 1);
        for (int i = 2; i < 9; i++) {
            due("23 number", x.note(0, 9999, 2, 0, 0), i);
        }
        due("23 there are 9", x.note(0, 1, 0, 0, 0), NONE);
        due("23 number of them", x.about(5), 9);
        due("24 hush", x.hush(), 9);
        due("24 again", x.hush(), 0);
        due("24 none", x.about(5), 0);
        due("23 from 0 again", x.note(0, 1, 0, 0, 0), 0);
    }

    private static void promise25and26() {
        Counted x = new Counted();
        due("25 empty", x.judge(), 1);
        due("26 empty", x.order(0), NONE);
        x.note(5, 6, 0, 2, 1);
        due("25 wrong answer", x.judge(), 0);
        x.note(0, 9, 0, 1, 0);
        due("25 in the other order", x.judge(), 1);
        due("26 first", x.order(0), 1);
        due("26 second", x.order(1), 0);
        due("26 none", x.order(2), NONE);
        due("26 none", x.order(-1), NONE);
        x.hush();
        x.note(5, 6, 0, 2, 1);
        x.note(6, 9, 0, 1, 0);
        due("25 ended where the other begins", x.judge(), 1);
        x.hush();
        x.note(5, 6, 0, 2, 1);
        x.note(7, 9, 0, 1, 0);
        due("25 ended ahead", x.judge(), 0);
        due("26 not right", x.order(0), NONE);
        x.hush();
        for (int i = 0; i < 9; i++) {
            x.note(0, 9, 1, 1, 9 - i);
        }
        due("25 only backward", x.judge(), 1);
        for (int i = 0; i < 9; i++) {
            due("26 backward", x.order(i), 8 - i);
        }
        x.hush();
        for (int i = 0; i < 9; i++) {
            x.note(0, 9, 3, 0, i == 4 ? 0 : 1);
        }
        due("25 a claim that never fails", x.judge(), 0);
        x.hush();
        x.note(0, 9, 3, 7, 0);
        x.note(0, 9, 2, -5, 0);
        x.note(0, 9, 3, 3, 1);
        due("25 claims", x.judge(), 1);
        due("26 claims", x.order(0), 1);
        due("26 claims", x.order(1), 2);
        due("26 claims", x.order(2), 0);
    }

    private static void promise27and28() {
        Counted x = Check.led(3);
        due("27 none", x.image(-1), NONE);
        due("27 none", x.image(3), NONE);
        due("28 none", x.back(-1), NONE);
        due("28 none", x.back(3), NONE);
        due("28 nothing kept", x.back(0), NONE);
        x.command(0, 0, 1, 0, 0, 5);
        Check.pass(x, 0, 1);
        x.read(0, 0);
        x.append(0, 1);
        x.append(0, 2);
        due("27 letters", x.image(2), 2);
        Check.deliverAll(x);
        due("27 good", x.good(0), 5);
        x.command(0, 0, 2, 0, 0, 6);
        x.fold(0, 1);
        x.read(0, 1);
        x.fall(0);
        x.note(0, 0, 0, 1, 0);
        x.feed(0, 0, 0, 0, 0);
        due("27 other", x.image(0), 0);
        due("28 letters", x.back(2), 2);
        due("28 leads", x.keeper(0, 2), 2);
        due("28 stands", x.keeper(0, 6), 0);
        due("28 folded", x.keeper(0, 3), 0);
        due("28 entry", x.entry(0, 1, 5), 5);
        due("28 last", x.keeper(0, 4), 1);
        due("28 reads", x.about(4), 1);
        due("28 not good", x.good(0), GAP);
        due("28 history", x.about(5), 1);
        due("28 tape", x.about(6), 20);
        Check.deliverAll(x);
        due("28 good", x.good(0), 5);
        due("28 back again", x.back(2), 2);
        due("28 not good", x.good(0), GAP);
        due("28 the other box", x.back(0), 0);
        due("28 fallen", x.keeper(0, 6), 1);
        due("28 folded", x.keeper(0, 3), 1);
        due("27 over an older one", x.image(2), 0);
        due("28 the newer one", x.back(2), 0);
        due("28 fallen", x.keeper(0, 6), 1);
    }

    /** A read of one leader is kept; then another leads and reads. */
    private static void promise28Reads() {
        Counted x = Check.led(3);
        x.command(0, 0, 1, 0, 0, 5);
        x.command(0, 0, 2, 0, 3, 6);
        Check.pass(x, 0, 1);
        x.image(0);
        x.read(0, 3);
        x.image(1);
        x.back(0);
        due("28 no reads", x.about(4), 0);
        due("28 none", x.good(0), GAP);
        x.ask(1);
        Check.deliverAll(x);
        x.command(1, 0, 3, 0, 0, 7);
        for (int i = 0; i < 4; i++) {
            Check.pass(x, 1, 0);
        }
        due("28 read", x.read(1, 0), 0);
        Check.pass(x, 1, 0);
        due("28 good", x.good(0), 7);
        x.image(2);
        due("28 back", x.back(1), 0);
        due("28 not good", x.good(0), GAP);
        Check.pass(x, 0, 1);
        due("28 good there", x.good(0), 6);
        x.back(2);
        due("28 good here", x.good(0), 7);
        x.back(0);
        due("28 none again", x.good(0), GAP);
        due("28 read again", x.read(0, 0), 0);
        Check.pass(x, 0, 2);
        due("28 good again", x.good(0), 5);
    }

    private static void promise29() {
        Counted x = Check.made("keeper a;keeper b;keeper c silent;keeper d;keeper e;");
        x.feed(0, 0, 0, 0, 0);
        x.note(0, 0, 0, 0, 0);
        x.ask(0);
        x.fall(2);
        int[] want = {5, 4, 3, 3, 0, 1, 20, 4};
        for (int what = 0; what <= 7; what++) {
            due("29 about(" + what + ")", x.about(what), want[what]);
        }
        due("29 another what", x.about(8), NONE);
        due("29 another what", x.about(-1), NONE);
        int[] most = {0, 1, 2, 2, 3, 3, 4, 4};
        for (int voters = 1; voters <= 7; voters++) {
            due("29 most of " + voters, Check.made(voters).about(2), most[voters]);
        }
    }
}
