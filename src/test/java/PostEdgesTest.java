/** The edges of the post: slots 0 .. 39, empty, full, none such; promises 6 to 9, 13, 22. */
public final class PostEdgesTest {
    private static final int NONE = LogKeepers.NONE;
    private static final int[] NO_SLOT = {-1, 40, 41, Integer.MIN_VALUE, Integer.MAX_VALUE};
    private static final Check CHECK = new Check("PostEdgesTest");

    public static void main(String[] args) {
        emptySlots();
        noneSuch();
        leastEmptyOne();
        fullPost();
        lastSlot();
        askNeedsSlots();
        askAlone();
        appendNeedsSlot();
        twiceNeedsSlot();
        deliverFindsSlot();
        letterOfEachKind();
        slotUsedAgain();
        otherWhats();
        twiceIsTheSame();
        CHECK.finish();
    }

    private static void due(String what, long got, long want) {
        CHECK.due(what, got, want);
    }

    private static void emptySlots() {
        Counted x = Check.made(3);
        int[] slots = {0, 1, 38, 39};
        for (int slot : slots) {
            due("7 empty", x.deliver(slot), NONE);
            due("8 empty", x.drop(slot), NONE);
            due("9 empty", x.twice(slot), NONE);
            for (int what = 0; what <= 8; what++) {
                due("22 empty", x.slot(slot, what), NONE);
            }
        }
        due("29 no letters", x.about(3), 0);
        x.ask(0);
        x.drop(0);
        due("7 dropped", x.deliver(0), NONE);
        due("8 dropped", x.drop(0), NONE);
        due("9 dropped", x.twice(0), NONE);
        due("22 dropped", x.slot(0, 0), NONE);
        due("29 one letter", x.about(3), 1);
        x.fall(2);
        x.deliver(1);
        due("7 delivered", x.deliver(1), NONE);
        due("29 no letter", x.about(3), 0);
    }

    private static void noneSuch() {
        Counted x = Check.made(3);
        x.ask(0);
        for (int slot : NO_SLOT) {
            due("7 none", x.deliver(slot), NONE);
            due("8 none", x.drop(slot), NONE);
            due("9 none", x.twice(slot), NONE);
            due("22 none", x.slot(slot, 0), NONE);
        }
        due("29 letters stay", x.about(3), 2);
    }

    private static void leastEmptyOne() {
        Counted x = Check.made(7);
        x.ask(0);
        for (int slot = 0; slot < 6; slot++) {
            due("6 by number", x.slot(slot, 2), slot + 1);
        }
        x.drop(4);
        x.drop(1);
        x.drop(2);
        due("9 the least", x.twice(0), 1);
        due("9 the next", x.twice(0), 2);
        due("9 the next", x.twice(0), 4);
        due("9 behind all", x.twice(0), 6);
        x.drop(3);
        x.drop(5);
        due("7 the reply", x.deliver(1), 1);
        due("7 stands in the least", x.slot(1, 0), 1);
        x.drop(0);
        x.deliver(6);
        due("7 which may be another one", x.slot(0, 0), 1);
        due("7 the slot is empty then", x.slot(6, 0), NONE);
    }

    /** Keeper 0 leads, and its 40 appends to keeper 1 are in the post. */
    private static Counted full() {
        Counted x = Check.led(3);
        x.command(0, 0, 1, 0, 0, 1);
        for (int i = 0; i < 40; i++) {
            due("13 slot " + i, x.append(0, 1), i);
        }
        return x;
    }

    private static void fullPost() {
        Counted x = full();
        due("29 40 letters", x.about(3), 40);
        due("13 no slot is empty", x.append(0, 1), NONE);
        due("13 nor for another", x.append(0, 2), NONE);
        due("13 no round more", x.keeper(0, 8), 40);
        for (int slot = 0; slot < 40; slot += 13) {
            due("9 no slot is empty", x.twice(slot), NONE);
        }
        due("6 no slots", x.ask(1), NONE);
        due("6 no term more", x.keeper(1, 0), 1);
        due("6 its vote stays", x.keeper(1, 1), 0);
        due("6 it follows", x.keeper(1, 2), 0);
        due("29 40 letters", x.about(3), 40);
    }

    private static void lastSlot() {
        Counted x = full();
        due("22 round of the last", x.slot(39, 8), 40);
        due("8 drop the last", x.drop(39), 2);
        due("9 twice into the last", x.twice(0), 39);
        due("22 its round", x.slot(39, 8), 1);
        due("7 deliver the last", x.deliver(39), 1);
        due("7 the reply is there", x.slot(39, 0), 3);
        due("7 deliver the last", x.deliver(39), 0);
        due("13 append into the last", x.append(0, 2), 39);
        due("22 its receiver", x.slot(39, 2), 2);
    }

    /** With n voters an ask takes n - 1 slots. */
    private static void askNeedsSlots() {
        for (int voters = 2; voters <= 7; voters++) {
            Counted x = Check.made(voters);
            x.ask(0);
            while (x.about(3) < 40 - voters + 2) {
                x.twice(0);
            }
            due("6 one slot too few", x.ask(1), NONE);
            due("6 no term", x.keeper(1, 0), 0);
            due("6 no vote", x.keeper(1, 1), NONE);
            due("6 it does not ask", x.keeper(1, 2), 0);
            due("6 no ballots", x.keeper(1, 7), 0);
            due("6 no letter", x.about(3), 40 - voters + 2);
            x.drop(0);
            due("6 just enough", x.ask(1), 1);
            due("6 the post is full", x.about(3), 40);
            due("6 the first is in the least slot", x.slot(0, 2), 0);
            due("6 by itself", x.slot(0, 1), 1);
            due("6 the last is in the last slot", x.slot(39, 2), voters == 2 ? 1 : voters - 1);
        }
    }

    private static void askAlone() {
        Counted x = Check.made("keeper a silent;keeper b;keeper c silent;");
        due("6 alone", x.ask(1), 1);
        due("6 leads at once", x.keeper(1, 2), 2);
        due("6 by its own ballot", x.keeper(1, 7), 2);
        due("6 nothing is sent", x.about(3), 0);
        for (int i = 0; i < 40; i++) {
            x.append(1, 0);
        }
        x.fall(1);
        x.rise(1);
        due("6 no slot is needed", x.ask(1), 2);
        due("6 leads", x.keeper(1, 2), 2);
        due("29 letters", x.about(3), 40);
    }

    private static void appendNeedsSlot() {
        Counted x = full();
        x.drop(17);
        due("13 the one slot", x.append(0, 2), 17);
        due("13 its round", x.slot(17, 8), 41);
        due("13 round", x.keeper(0, 8), 41);
        due("13 none is left", x.append(0, 2), NONE);
        due("13 round", x.keeper(0, 8), 41);
    }

    private static void twiceNeedsSlot() {
        Counted x = full();
        x.drop(39);
        due("9 the last slot", x.twice(5), 39);
        due("9 none is left", x.twice(5), NONE);
        due("29 letters", x.about(3), 40);
        due("22 those stay", x.slot(5, 8), 6);
        due("22 the same", x.slot(39, 8), 6);
    }

    private static void deliverFindsSlot() {
        Counted x = full();
        due("7 its own slot is empty then", x.deliver(20), 1);
        due("7 the reply is there", x.slot(20, 0), 3);
        due("7 its number", x.slot(20, 5), 1);
        due("29 still 40", x.about(3), 40);
        due("7 an answer is no letter more", x.deliver(20), 0);
        due("29 39", x.about(3), 39);
        due("17 it is done", x.keeper(0, 5), 1);
    }

    private static void letter(String kind, Counted x, int slot, int... want) {
        for (int what = 0; what < want.length; what++) {
            due("22 " + kind + ", what " + what, x.slot(slot, what), want[what]);
        }
    }

    private static void letterOfEachKind() {
        Counted x = Check.led(3);
        for (int i = 1; i <= 7; i++) {
            x.command(0, 0, i, 0, 0, i);
        }
        Check.pass(x, 0, 1);
        x.append(0, 1);
        letter("append", x, 0, 2, 0, 1, 1, 5, 1, 2, 5, 2);
        x.deliver(0);
        letter("yes answer", x, 0, 3, 1, 0, 1, 1, 7, 0, 0, 2);
        x.deliver(0);
        x.fold(0, 6);
        x.append(0, 2);
        letter("folding", x, 0, 4, 0, 2, 1, 6, 1, 0, 0, 3);
        x.ask(1);
        letter("ask", x, 1, 0, 1, 0, 2, 7, 1, 0, 0, 0);
        letter("ask", x, 2, 0, 1, 2, 2, 7, 1, 0, 0, 0);
        x.deliver(2);
        letter("yes ballot", x, 2, 1, 2, 1, 2, 1, 0, 0, 0, 0);
        x.deliver(0);
        letter("no answer", x, 0, 3, 2, 0, 2, 0, 0, 0, 0, 3);
        x.ask(2);
        int slot = 4;
        while (x.slot(slot, 0) != 0 || x.slot(slot, 2) != 1) {
            slot--;
        }
        letter("ask of an empty row", x, slot, 0, 2, 1, 3, 0, 0, 0, 0, 0);
        x.deliver(slot);
        letter("no ballot", x, slot, 1, 1, 2, 3, 0, 0, 0, 0, 0);
    }

    /** Nothing of a letter that was in the slot before shows in the next one there. */
    private static void slotUsedAgain() {
        Counted x = Check.led(3);
        for (int i = 1; i <= 3; i++) {
            x.command(0, 0, i, 0, 0, i);
        }
        Check.pass(x, 0, 1);
        x.command(0, 0, 4, 0, 0, 4);
        x.append(0, 1);
        letter("append", x, 0, 2, 0, 1, 1, 3, 1, 1, 3, 2);
        x.drop(0);
        x.ask(2);
        letter("ask", x, 0, 0, 2, 0, 2, 0, 0, 0, 0, 0);
        x.drop(0);
        x.drop(1);
        x.append(0, 1);
        x.drop(0);
        x.fold(0, 3);
        x.append(0, 2);
        letter("folding", x, 0, 4, 0, 2, 1, 3, 1, 0, 0, 4);
        x.deliver(0);
        letter("answer", x, 0, 3, 2, 0, 2, 0, 0, 0, 0, 4);
        x.drop(0);
        x.append(0, 1);
        x.drop(0);
        x.ask(1);
        x.deliver(1);
        letter("ballot", x, 1, 1, 2, 1, 2, 0, 0, 0, 0, 0);
    }

    private static void otherWhats() {
        Counted x = Check.made(3);
        x.ask(0);
        int[] none = {-1, 9, 10, Integer.MIN_VALUE, Integer.MAX_VALUE};
        for (int what : none) {
            due("22 another what", x.slot(0, what), NONE);
        }
        due("22 what 8", x.slot(0, 8), 0);
    }

    private static void twiceIsTheSame() {
        Counted x = Check.led(3);
        for (int i = 1; i <= 4; i++) {
            x.command(0, 1, i, 1, 6, i);
        }
        x.append(0, 1);
        due("9 its slot", x.twice(0), 1);
        due("9 one of one that is there twice", x.twice(1), 2);
        for (int what = 0; what <= 8; what++) {
            due("9 the same", x.slot(1, what), x.slot(0, what));
            due("9 the same", x.slot(2, what), x.slot(0, what));
        }
        x.drop(0);
        due("9 the other stays", x.slot(1, 6), 4);
        x.deliver(2);
        due("9 with its entries", x.entry(1, 4, 5), 4);
        x.deliver(0);
        x.fold(0, 4);
        x.append(0, 2);
        due("9 the folding, too", x.twice(0), 2);
        x.drop(0);
        x.deliver(2);
        due("9 with its state", x.state(2, 6), 10);
        due("9 with its clients", x.client(2, 1, 0), 4);
        due("9 and their answers", x.client(2, 1, 1), 10);
    }
}
