/** The edges of images and of looks at all: promises 27 to 29, and what keepers() leaves. */
public final class BoxEdgesTest {
    private static final int NONE = LogKeepers.NONE;
    private static final int GAP = LogKeepers.GAP;
    private static final int[] NO_BOX = {-1, 3, 4, Integer.MIN_VALUE, Integer.MAX_VALUE};
    private static final Check CHECK = new Check("BoxEdgesTest");

    public static void main(String[] args) {
        noneSuch();
        nothingKept();
        imageOfNothing();
        eachBoxByItself();
        imageOverImage();
        backAgainAndAgain();
        lettersAreCounted();
        lettersWithAllTheyHave();
        keepersWithAllTheyHave();
        laterOnesAreGone();
        allAsAtFirst();
        leadersWithTheirPeers();
        readsAreKept();
        fallenStayFallen();
        whatIsNotKept();
        emptyBehindKeepers();
        stayBehindFault();
        aboutEach();
        aboutOthers();
        CHECK.finish();
    }

    private static void due(String what, long got, long want) {
        CHECK.due(what, got, want);
    }

    private static void noneSuch() {
        Counted x = Check.led(3);
        for (int box : NO_BOX) {
            due("27 none such", x.image(box), NONE);
            due("28 none such", x.back(box), NONE);
        }
        for (int box = 0; box <= 2; box++) {
            due("28 nothing was kept", x.back(box), NONE);
        }
        for (int box = 0; box <= 2; box++) {
            due("27 box " + box, x.image(box), 0);
            due("28 box " + box, x.back(box), 0);
        }
        for (int box : NO_BOX) {
            due("28 none such", x.back(box), NONE);
        }
    }

    private static void nothingKept() {
        Counted x = Check.led(3);
        x.append(0, 1);
        x.image(1);
        x.deliver(0);
        due("28 nothing in 0", x.back(0), NONE);
        due("28 nothing in 2", x.back(2), NONE);
        due("22 the letter is as it was", x.slot(0, 0), 3);
        due("28 something in 1", x.back(1), 1);
        due("22 as it was kept", x.slot(0, 0), 2);
    }

    private static void imageOfNothing() {
        Counted x = new Counted();
        due("27 no keepers", x.image(0), 0);
        due("28 no keepers", x.back(0), 0);
        due("29 no keepers", x.about(0), 0);
        due("17 none", x.keeper(0, 0), -2);
        Check.lay(x, "keeper a;");
        x.keepers();
        due("28 empty then", x.back(0), NONE);
        due("29 one keeper", x.about(0), 1);
    }

    private static void eachBoxByItself() {
        Counted x = Check.made(3);
        for (int box = 0; box <= 2; box++) {
            x.ask(box);
            due("27 letters", x.image(box), 2 * (box + 1));
        }
        for (int box = 2; box >= 0; box--) {
            due("28 letters", x.back(box), 2 * (box + 1));
            due("29 letters", x.about(3), 2 * (box + 1));
            for (int k = 0; k < 3; k++) {
                due("28 role of " + k + " in box " + box, x.keeper(k, 2), k <= box ? 1 : 0);
            }
        }
    }

    private static void imageOverImage() {
        Counted x = Check.made(3);
        x.image(0);
        x.ask(0);
        due("27 over an older one", x.image(0), 2);
        x.ask(0);
        due("28 the newer one", x.back(0), 2);
        due("17 term", x.keeper(0, 0), 1);
    }

    private static void backAgainAndAgain() {
        Counted x = Check.led(3);
        x.command(0, 0, 1, 1, 0, 5);
        x.append(0, 1);
        x.image(0);
        for (int i = 0; i < 3; i++) {
            x.deliver(0);
            x.deliver(0);
            due("17 done", x.keeper(0, 5), 1);
            due("19 counted once", x.state(0, 0), 5);
            x.fold(0, 1);
            due("28 back", x.back(0), 1);
            due("17 not done", x.keeper(0, 5), 0);
            due("17 not folded", x.keeper(0, 3), 0);
            due("19 not counted", x.state(0, 0), 0);
        }
    }

    private static void lettersAreCounted() {
        Counted x = Check.led(3);
        for (int letters = 0; letters <= 40; letters++) {
            due("27 letters", x.image(letters % 3), letters);
            due("28 letters", x.back(letters % 3), letters);
            x.append(0, 1);
        }
        due("27 a full post", x.image(1), 40);
    }

    private static void lettersWithAllTheyHave() {
        Counted x = Check.led(3);
        for (int i = 1; i <= 3; i++) {
            x.command(0, 0, i, 1, 0, i);
        }
        x.append(0, 1);
        x.append(0, 2);
        x.deliver(0);
        x.deliver(0);
        x.fold(0, 2);
        x.append(0, 2);
        x.image(2);
        int[][] seen = new int[3][9];
        for (int slot = 0; slot < 3; slot++) {
            for (int what = 0; what <= 8; what++) {
                seen[slot][what] = x.slot(slot, what);
            }
        }
        x.drop(0);
        x.drop(1);
        x.fall(2);
        x.ask(1);
        x.deliver(0);
        x.command(0, 0, 9, 0, 0, 77);
        x.append(0, 2);
        x.append(0, 2);
        due("28 back", x.back(2), 2);
        for (int slot = 0; slot < 3; slot++) {
            for (int what = 0; what <= 8; what++) {
                due("22 as it was", x.slot(slot, what), seen[slot][what]);
            }
        }
        due("22 folding", x.slot(0, 0), 4);
        x.deliver(0);
        due("28 its state came along", x.state(2, 0), 3);
        x.back(2);
        due("22 append", x.slot(1, 6), 3);
        x.deliver(1);
        due("28 its entries came along", x.entry(2, 3, 5), 3);
    }

    private static void keepersWithAllTheyHave() {
        Counted x = Check.led(3);
        for (int i = 1; i <= 4; i++) {
            x.command(0, i, i, 1, i, i * 10);
        }
        Check.pass(x, 0, 1);
        x.fold(0, 2);
        x.ask(2);
        x.image(0);
        Check.deliverAll(x);
        x.fall(0);
        x.fall(2);
        x.back(0);
        int[] leads = {1, 0, 2, 2, 4, 4, 0, 7, 1, 1};
        int[] asks = {2, 2, 1, 0, 0, 0, 0, 4, 0, 1};
        leads[7] = x.keeper(0, 7);
        for (int what = 0; what <= 9; what++) {
            due("28 keeper(0, " + what + ")", x.keeper(0, what), leads[what]);
            due("28 keeper(2, " + what + ")", x.keeper(2, what), asks[what]);
        }
        due("28 ballots", Integer.bitCount(leads[7]), 2);
        due("28 folded ones are gone", x.entry(0, 2, 0), GAP);
        due("28 entry 3", x.entry(0, 3, 5), 30);
        due("28 cell 4", x.state(0, 4), 40);
        due("28 client 4", x.client(0, 4, 1), 40);
        x.fall(0);
        due("28 the fold's state", x.state(0, 2), 20);
        due("28 not more", x.state(0, 3), 0);
    }

    /** What came behind the image is gone: entries, a greater fold with its state, the term of that. */
    private static void laterOnesAreGone() {
        Counted x = Check.led(1);
        x.command(0, 0, 1, 1, 0, 5);
        x.fold(0, 1);
        x.image(0);
        x.fall(0);
        x.rise(0);
        x.ask(0);
        x.command(0, 0, 2, 1, 0, 5);
        x.command(0, 0, 3, 1, 0, 5);
        x.fold(0, 2);
        x.image(1);
        x.back(0);
        due("17 last", x.keeper(0, 4), 1);
        due("17 folded", x.keeper(0, 3), 1);
        due("18 none behind", x.entry(0, 2, 0), GAP);
        due("15 the fold's term is its own", x.read(0, 0), 0);
        x.fall(0);
        due("19 the fold's state", x.state(0, 0), 5);
        x.back(1);
        due("17 last", x.keeper(0, 4), 3);
        due("18 one behind", x.entry(0, 3, 0), 2);
        x.fall(0);
        due("19 the fold's state", x.state(0, 0), 10);
    }

    /** All as at first, the post empty, no reads: whatever was before. */
    private static void allAsAtFirst() {
        Counted x = Check.led(3);
        for (int i = 1; i <= 3; i++) {
            x.command(0, 0, i, 1, 0, 5);
        }
        Check.pass(x, 0, 1);
        Check.pass(x, 0, 1);
        for (int k = 0; k < 2; k++) {
            x.fold(k, 2);
        }
        x.read(0, 0);
        x.ask(2);
        x.append(0, 1);
        x.fall(1);
        Check.lay(x, "keeper a;keeper b;keeper c;");
        x.keepers();
        int[] first = {0, NONE, 0, 0, 0, 0, 0, 0, 0, 1};
        for (int k = 0; k < 3; k++) {
            for (int what = 0; what <= 9; what++) {
                due("4 keeper(" + k + ", " + what + ")", x.keeper(k, what), first[what]);
            }
            for (int entry = 0; entry <= 4; entry++) {
                due("4 no entry", x.entry(k, entry, 0), GAP);
            }
            due("4 cell", x.state(k, 0), 0);
            due("4 latest", x.client(k, 0, 0), 0);
            due("4 answer", x.client(k, 0, 1), 0);
        }
        for (int slot = 0; slot < 40; slot++) {
            due("4 no letter", x.slot(slot, 0), NONE);
        }
        due("29 no letters", x.about(3), 0);
        due("29 no reads", x.about(4), 0);
        due("29 all stand", x.about(7), 3);
        x.fall(0);
        due("4 no fold", x.state(0, 0), 0);
        x.rise(0);
        x.ask(0);
        due("4 the term of 0", x.slot(0, 5), 0);
        Check.deliverAll(x);
        due("4 next", x.peer(0, 1, 0), 1);
        due("4 sure", x.peer(0, 1, 1), 0);
        due("4 answered", x.peer(0, 1, 2), 0);
    }

    private static void leadersWithTheirPeers() {
        Counted x = Check.led(3);
        x.command(0, 0, 1, 0, 0, 1);
        Check.pass(x, 0, 1);
        x.image(1);
        x.command(0, 0, 2, 0, 0, 2);
        Check.pass(x, 0, 1);
        Check.pass(x, 0, 2);
        x.back(1);
        int[] first = {2, 1, 1};
        int[] second = {1, 0, 0};
        for (int what = 0; what <= 2; what++) {
            due("21 of 1", x.peer(0, 1, what), first[what]);
            due("21 of 2", x.peer(0, 2, what), second[what]);
        }
        due("17 round", x.keeper(0, 8), 1);
    }

    private static void readsAreKept() {
        Counted x = Check.led(1);
        x.command(0, 0, 1, 0, 0, 1);
        x.read(0, 0);
        x.image(0);
        x.read(0, 1);
        x.read(0, 0);
        x.back(0);
        due("29 one read", x.about(4), 1);
        due("16 it", x.good(0), 1);
        due("16 no other", x.good(1), GAP);
        due("15 the next number", x.read(0, 1), 1);
        x.fall(0);
        x.rise(0);
        due("16 gone", x.good(0), GAP);
        x.back(0);
        due("16 it is there again", x.good(0), 1);
    }

    private static void fallenStayFallen() {
        Counted x = Check.made(3);
        x.fall(1);
        x.image(0);
        x.rise(1);
        x.fall(0);
        due("29 not fallen", x.about(7), 2);
        x.back(0);
        due("17 fallen", x.keeper(1, 6), 1);
        due("17 not fallen", x.keeper(0, 6), 0);
        due("29 not fallen", x.about(7), 2);
    }

    private static void whatIsNotKept() {
        Counted x = Check.made(3);
        Check.lay(x, "!");
        x.keepers();
        Check.lay(x, "keeper a;");
        x.note(0, 0, 0, 0, 0);
        x.image(0);
        x.end(8);
        x.note(0, 0, 0, 0, 0);
        due("28 back", x.back(0), 0);
        due("29 commands stay", x.about(5), 2);
        due("29 the tape stays", x.about(6), 8);
        due("5 the fault stays", x.fault(0), 1);
        x.keepers();
        due("5 a new fault", x.fault(0), 2);
        x.back(0);
        due("5 the fault stays", x.fault(0), 2);
        due("5 its place stays", x.fault(1), 8);
        due("29 the tape stays empty", x.about(6), 0);
        x.image(1);
        due("28 a box does not go into a box", x.back(0), 0);
    }

    private static void emptyBehindKeepers() {
        Counted x = Check.made(3);
        for (int box = 0; box <= 2; box++) {
            x.image(box);
        }
        Check.lay(x, "keeper a;keeper b;keeper c;");
        due("4 told", x.keepers(), 3);
        for (int box = 0; box <= 2; box++) {
            due("28 empty", x.back(box), NONE);
        }
        x.ask(0);
        x.image(1);
        due("28 still empty", x.back(0), NONE);
        due("28 kept anew", x.back(1), 2);
    }

    private static void stayBehindFault() {
        Counted x = Check.made(3);
        x.ask(0);
        x.image(1);
        x.deliver(0);
        Check.lay(x, "keeper a");
        due("4 a fault", x.keepers(), NONE);
        due("4 the post stays", x.slot(0, 0), 1);
        due("4 the keepers stay", x.keeper(1, 1), 0);
        due("28 the box stays", x.back(1), 2);
        due("28 the others are empty", x.back(0), NONE);
        due("22 as it was kept", x.slot(0, 0), 0);
    }

    private static void aboutEach() {
        Counted x = Check.made("keeper a;keeper b silent;keeper c;keeper d;keeper e;keeper f silent;keeper g;");
        int[] want = {7, 5, 3, 0, 0, 0, 0, 7};
        for (int what = 0; what <= 7; what++) {
            due("29 about(" + what + ")", x.about(what), want[what]);
        }
        for (int k = 0; k < 7; k++) {
            x.fall(k);
            due("29 not fallen", x.about(7), 6 - k);
            due("29 keepers all the same", x.about(0), 7);
            due("29 voters all the same", x.about(1), 5);
            due("29 most all the same", x.about(2), 3);
        }
        x.rise(6);
        x.ask(6);
        due("29 letters", x.about(3), 4);
        x.drop(0);
        due("29 letters", x.about(3), 3);
        x.feed(0, 0, 0, 0, 0);
        due("29 bytes", x.about(6), 20);
        x.end(7);
        due("29 bytes", x.about(6), 7);
    }

    private static void aboutOthers() {
        Counted x = Check.made(1);
        int[] none = {-1, 8, 9, Integer.MIN_VALUE, Integer.MAX_VALUE};
        for (int what : none) {
            due("29 another what", x.about(what), NONE);
        }
    }
}
