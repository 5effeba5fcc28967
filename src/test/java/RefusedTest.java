import java.util.ArrayList;
import java.util.LinkedHashMap;
import java.util.List;
import java.util.Map;
import java.util.function.Consumer;
import java.util.function.Supplier;
import java.util.function.ToIntFunction;

/**
 * "NONE, doing nothing": behind a call that is refused all other calls answer as if it had not been. A scene is made
 * anew for each probe, once with the refused call behind it and once without; what both answer must be the same.
 */
public final class RefusedTest {
    private static final int NONE = LogKeepers.NONE;
    private static final int[] FAR = {Integer.MIN_VALUE, Integer.MIN_VALUE + 1, -7, -2, -1, 40, 41, 1000, Integer.MAX_VALUE};
    private static final Check CHECK = new Check("RefusedTest");

    /** What is looked at: each probe tells all its answers, in few enough calls for one object. */
    private interface Probe {
        void ask(Counted x, List<Integer> answers);
    }

    private final String name;
    private final Supplier<Counted> scene;
    private final Map<String, Probe> probes = new LinkedHashMap<>();
    private final Map<String, List<Integer>> before = new LinkedHashMap<>();

    private RefusedTest(String name, Supplier<Counted> scene) {
        this.name = name;
        this.scene = scene;
        probes.put("numbers", RefusedTest::numbers);
        probes.put("keepers", RefusedTest::keepers);
        for (int k = 0; k < Math.max(1, scene.get().about(0)); k++) {
            int keeper = k;
            probes.put("row of " + k, (x, answers) -> row(x, keeper, answers));
        }
        probes.put("states", RefusedTest::states);
        probes.put("peers", RefusedTest::peers);
        probes.put("slots 0 .. 19", (x, answers) -> slots(x, 0, answers));
        probes.put("slots 20 .. 39", (x, answers) -> slots(x, 20, answers));
        probes.put("reads", RefusedTest::reads);
        probes.put("history", RefusedTest::history);
        probes.put("letters delivered", RefusedTest::delivered);
        probes.put("all fallen", RefusedTest::fallen);
        probes.put("acts behind it", RefusedTest::acts);
        for (int box = 0; box < 3; box++) {
            int itsNumber = box;
            probes.put("box " + box, (x, answers) -> box(x, itsNumber, answers));
        }
        probes.put("tape", RefusedTest::tape);
        probes.put("fault", RefusedTest::fault);
        for (Map.Entry<String, Probe> probe : probes.entrySet()) {
            before.put(probe.getKey(), answers(probe.getValue(), x -> { }));
        }
    }

    private List<Integer> answers(Probe probe, Consumer<Counted> call) {
        Counted x = scene.get();
        call.accept(x);
        List<Integer> answers = new ArrayList<>();
        probe.ask(x, answers);
        return answers;
    }

    private void same(String call, Consumer<Counted> refused, String... but) {
        for (Map.Entry<String, Probe> probe : probes.entrySet()) {
            if (!List.of(but).contains(probe.getKey())) {
                boolean same = answers(probe.getValue(), refused).equals(before.get(probe.getKey()));
                CHECK.due(name + ": " + call + " changed the " + probe.getKey(), !same, false);
            }
        }
    }

    private void refused(String call, int due, ToIntFunction<Counted> refused) {
        CHECK.due(name + ": " + call, refused.applyAsInt(scene.get()), due);
        same(call, x -> refused.applyAsInt(x));
    }

    private void none(String call, ToIntFunction<Counted> refused) {
        refused(call, NONE, refused);
    }

    private void untrue(String call, ToIntFunction<Counted> refused) {
        refused(call, 0, refused);
    }

    public static void main(String[] args) {
        newObject();
        fullTape();
        oneLeads();
        oneLeadsFaults();
        fullPost();
        nearlyFullPost();
        noRoom();
        fortyReads();
        nothingDoneOfItsTerm();
        nineCommands();
        allFallen();
        looksChangeNothing();
        CHECK.finish();
    }

    private static void newObject() {
        RefusedTest t = new RefusedTest("a new object", Counted::new);
        t.none("end(1)", x -> x.end(1));
        t.none("end(-1)", x -> x.end(-1));
        t.none("ask(0)", x -> x.ask(0));
        t.none("deliver(0)", x -> x.deliver(0));
        t.none("drop(0)", x -> x.drop(0));
        t.none("twice(0)", x -> x.twice(0));
        t.untrue("fall(0)", x -> x.fall(0) ? 1 : 0);
        t.untrue("rise(0)", x -> x.rise(0) ? 1 : 0);
        t.none("command", x -> x.command(0, 0, 1, 0, 0, 1));
        t.none("append(0, 1)", x -> x.append(0, 1));
        t.none("fold(0, 1)", x -> x.fold(0, 1));
        t.none("read(0, 0)", x -> x.read(0, 0));
        t.none("back(0)", x -> x.back(0));
        t.none("image(3)", x -> x.image(3));
        t.same("a faulty keepers()", x -> x.keepers(), "tape", "fault");
    }

    private static Counted taped(int bytes) {
        Counted x = Check.made(3);
        Check.lay(x, "keeper one;keeper two;" + " ".repeat(bytes - 22));
        return x;
    }

    private static void fullTape() {
        for (int bytes = 381; bytes <= 400; bytes += 19) {
            int n = bytes;
            RefusedTest t = new RefusedTest(bytes + " bytes on the tape", () -> taped(n));
            t.none("feed", x -> x.feed(0x21212121, 0x21212121, 0x21212121, 0x21212121, 0x21212121));
            t.none("end, one more", x -> x.end(n + 1));
            t.none("end(401)", x -> x.end(401));
            t.none("end(-1)", x -> x.end(-1));
            t.none("end, the least", x -> x.end(Integer.MIN_VALUE));
            t.none("end, the greatest", x -> x.end(Integer.MAX_VALUE));
        }
    }

    /** Letters of each kind, one that leads, one that asks, a silent one that fell; a fold, a read, a box, a history. */
    private static Counted rich() {
        Counted x = Check.made("keeper a;keeper b;keeper c;keeper d silent;");
        x.ask(0);
        x.deliver(0);
        x.deliver(0);
        for (int i = 1; i <= 7; i++) {
            x.command(0, i % 6, i, 1, i % 8, i);
        }
        int slot = x.append(0, 1);
        x.deliver(slot);
        x.deliver(slot);
        x.read(0, 2);
        x.append(0, 1);
        x.twice(0);
        x.deliver(0);
        x.fold(0, 3);
        x.append(0, 3);
        x.append(0, 2);
        x.append(0, 1);
        x.image(1);
        x.ask(2);
        x.deliver(x.about(3) - 1);
        x.fall(3);
        x.note(0, 5, 1, 1, 2);
        x.note(3, 9, 1, 1, 1);
        Check.lay(x, "keeper one;keeper two;");
        return x;
    }

    private static void oneLeads() {
        Counted made = rich();
        boolean[] kinds = new boolean[5];
        for (int slot = 0; slot < 40; slot++) {
            int kind = made.slot(slot, 0);
            if (kind != NONE) {
                kinds[kind] = true;
            }
        }
        for (int kind = 0; kind < 5; kind++) {
            CHECK.due("letters of kind " + kind + " are there", kinds[kind], true);
        }
        RefusedTest t = new RefusedTest("one leads", RefusedTest::rich);
        t.none("end(23)", x -> x.end(23));
        t.none("end(-1)", x -> x.end(-1));
        t.none("ask of one that leads", x -> x.ask(0));
        t.none("ask of a silent one", x -> x.ask(3));
        t.none("ask of none such", x -> x.ask(4));
        t.none("deliver of an empty slot", x -> x.deliver(39));
        t.none("drop of an empty slot", x -> x.drop(39));
        t.none("twice of an empty slot", x -> x.twice(39));
        t.untrue("fall of a fallen one", x -> x.fall(3) ? 1 : 0);
        t.untrue("fall of none such", x -> x.fall(4) ? 1 : 0);
        t.untrue("rise of one that stands", x -> x.rise(0) ? 1 : 0);
        t.untrue("rise of none such", x -> x.rise(4) ? 1 : 0);
        t.none("command to one that follows", x -> x.command(1, 0, 9, 0, 0, 1));
        t.none("command to one that asks", x -> x.command(2, 0, 9, 0, 0, 1));
        t.none("command to a fallen one", x -> x.command(3, 0, 9, 0, 0, 1));
        t.none("command to none such", x -> x.command(4, 0, 9, 0, 0, 1));
        t.none("client -1", x -> x.command(0, -1, 9, 0, 0, 1));
        t.none("client 6", x -> x.command(0, 6, 9, 0, 0, 1));
        t.none("number 0", x -> x.command(0, 0, 0, 0, 0, 1));
        t.none("number 100", x -> x.command(0, 0, 100, 0, 0, 1));
        t.none("what -1", x -> x.command(0, 0, 9, -1, 0, 1));
        t.none("what 4", x -> x.command(0, 0, 9, 4, 0, 1));
        t.none("cell -1", x -> x.command(0, 0, 9, 0, -1, 1));
        t.none("cell 8", x -> x.command(0, 0, 9, 0, 8, 1));
        t.none("append to itself", x -> x.append(0, 0));
        t.none("append by one that follows", x -> x.append(1, 0));
        t.none("append by one that asks", x -> x.append(2, 0));
        t.none("append to none such", x -> x.append(0, 4));
        t.none("fold of what is folded", x -> x.fold(0, 3));
        t.none("fold below that", x -> x.fold(0, 2));
        t.none("fold of 0", x -> x.fold(0, 0));
        t.none("fold of what is not done", x -> x.fold(0, 6));
        t.none("fold of none", x -> x.fold(0, 8));
        t.none("fold of one with nothing done", x -> x.fold(2, 1));
        t.none("fold of a fallen one", x -> x.fold(3, 1));
        t.none("fold of none such", x -> x.fold(4, 1));
        t.none("read by one that follows", x -> x.read(1, 0));
        t.none("read by one that asks", x -> x.read(2, 0));
        t.none("read by a fallen one", x -> x.read(3, 0));
        t.none("read of cell 8", x -> x.read(0, 8));
        t.none("read of cell -1", x -> x.read(0, -1));
        t.none("note from -1 on", x -> x.note(-1, 5, 0, 0, 0));
        t.none("note backward", x -> x.note(5, 4, 0, 0, 0));
        t.none("note up to 10000", x -> x.note(5, 10000, 0, 0, 0));
        t.none("note of what -1", x -> x.note(5, 6, -1, 0, 0));
        t.none("note of what 4", x -> x.note(5, 6, 4, 0, 0));
        t.none("image(-1)", x -> x.image(-1));
        t.none("image(3)", x -> x.image(3));
        t.none("back(-1)", x -> x.back(-1));
        t.none("back(3)", x -> x.back(3));
        t.none("back(0), where nothing was kept", x -> x.back(0));
        t.none("back(2), where nothing was kept", x -> x.back(2));
        for (int far : FAR) {
            t.none("ask(" + far + ")", x -> x.ask(far));
            t.none("deliver(" + far + ")", x -> x.deliver(far));
            t.none("drop(" + far + ")", x -> x.drop(far));
            t.none("twice(" + far + ")", x -> x.twice(far));
            t.untrue("fall(" + far + ")", x -> x.fall(far) ? 1 : 0);
            t.untrue("rise(" + far + ")", x -> x.rise(far) ? 1 : 0);
            t.none("command(" + far + ", ..)", x -> x.command(far, 0, 9, 0, 0, 1));
            t.none("append(" + far + ", 1)", x -> x.append(far, 1));
            t.none("append(0, " + far + ")", x -> x.append(0, far));
            t.none("fold(0, " + far + ")", x -> x.fold(0, far));
            t.none("read(" + far + ", 0)", x -> x.read(far, 0));
            t.none("read(0, " + far + ")", x -> x.read(0, far));
            t.none("image(" + far + ")", x -> x.image(far));
            t.none("back(" + far + ")", x -> x.back(far));
        }
    }

    /** "NONE: a FAULT (all stays)": the fault and the tape alone are other ones. */
    private static void oneLeadsFaults() {
        RefusedTest t = new RefusedTest("one leads, and a fault", () -> {
            Counted x = rich();
            x.end(0);
            return x;
        });
        String[] wrong = {"", "!", ";", "keeper", "keeper one;keeper two;keeper one;", "keeper one silent;",
            "keeper a;keeper b;keeper c;keeper d;keeper e;keeper f;keeper g;keeper h;", "keeper abcdefghi;"};
        for (String text : wrong) {
            t.same("keepers() of '" + text + "'", x -> {
                Check.lay(x, text);
                CHECK.due("keepers of '" + text + "'", x.keepers(), NONE);
            }, "tape", "fault");
        }
    }

    private static Counted postOf(int letters) {
        Counted x = Check.led(3);
        x.command(0, 0, 1, 0, 0, 1);
        for (int i = 0; i < letters; i++) {
            x.append(0, 1 + i % 2);
        }
        return x;
    }

    private static void fullPost() {
        RefusedTest t = new RefusedTest("a full post", () -> postOf(40));
        t.none("append", x -> x.append(0, 1));
        t.none("twice(0)", x -> x.twice(0));
        t.none("twice(39)", x -> x.twice(39));
        t.none("ask", x -> x.ask(1));
    }

    private static void nearlyFullPost() {
        RefusedTest t = new RefusedTest("39 letters", () -> postOf(39));
        t.none("ask", x -> x.ask(1));
        t.none("twice(39)", x -> x.twice(39));
        t.none("drop(39)", x -> x.drop(39));
        t.none("deliver(39)", x -> x.deliver(39));
    }

    private static Counted roomless() {
        Counted x = Check.led(1);
        for (int i = 1; i <= 41; i++) {
            x.command(0, 0, i, 1, i % 8, i);
            if (i == 1) {
                x.fold(0, 1);
            }
        }
        return x;
    }

    private static void noRoom() {
        RefusedTest t = new RefusedTest("no room", RefusedTest::roomless);
        t.none("command", x -> x.command(0, 0, 99, 1, 0, 1));
        t.none("command of another client", x -> x.command(0, 5, 1, 0, 7, 1));
        t.none("fold of what is folded", x -> x.fold(0, 1));
        t.none("fold behind all", x -> x.fold(0, 42));
        t.none("ask", x -> x.ask(0));
    }

    private static Counted read() {
        Counted x = Check.led(1);
        x.command(0, 0, 1, 0, 0, 6);
        for (int i = 0; i < 40; i++) {
            x.read(0, i % 8);
        }
        return x;
    }

    private static void fortyReads() {
        RefusedTest t = new RefusedTest("40 reads", RefusedTest::read);
        t.none("read", x -> x.read(0, 0));
        t.none("read of another cell", x -> x.read(0, 7));
    }

    private static Counted fresh() {
        Counted x = Check.led(3);
        x.command(0, 0, 1, 0, 0, 6);
        return x;
    }

    private static void nothingDoneOfItsTerm() {
        RefusedTest t = new RefusedTest("nothing done", RefusedTest::fresh);
        t.none("read", x -> x.read(0, 0));
        t.none("fold", x -> x.fold(0, 1));
    }

    private static Counted noted() {
        Counted x = Check.made(2);
        for (int i = 0; i < 9; i++) {
            x.note(0, 9, 1, 1, 9 - i);
        }
        return x;
    }

    private static void nineCommands() {
        RefusedTest t = new RefusedTest("9 commands", RefusedTest::noted);
        t.none("note", x -> x.note(0, 9, 1, 1, 10));
        t.none("note of what is wrong", x -> x.note(0, 9, 1, 1, 77));
    }

    private static Counted down() {
        Counted x = rich();
        x.fall(0);
        x.fall(1);
        x.fall(2);
        return x;
    }

    private static void allFallen() {
        RefusedTest t = new RefusedTest("all fallen", RefusedTest::down);
        for (int k = 0; k < 4; k++) {
            int keeper = k;
            t.none("ask(" + k + ")", x -> x.ask(keeper));
            t.untrue("fall(" + k + ")", x -> x.fall(keeper) ? 1 : 0);
            t.none("command(" + k + ", ..)", x -> x.command(keeper, 0, 9, 0, 0, 1));
            t.none("append(" + k + ", ..)", x -> x.append(keeper, (keeper + 1) % 4));
            t.none("fold(" + k + ", 5)", x -> x.fold(keeper, 5));
            t.none("read(" + k + ", 0)", x -> x.read(keeper, 0));
        }
    }

    /** Looking is no act. */
    private static void looksChangeNothing() {
        RefusedTest t = new RefusedTest("one leads, and is looked at", RefusedTest::rich);
        t.same("looking", x -> {
            for (int what = -1; what <= 10; what++) {
                x.fault(what);
                x.good(what);
                x.keeper(0, what);
                x.entry(0, 4, what);
                x.state(0, what);
                x.client(0, 1, what);
                x.peer(0, 1, what);
                x.slot(0, what);
                x.order(what);
                x.about(what);
            }
            x.judge();
        });
    }

    private static void numbers(Counted x, List<Integer> answers) {
        for (int what = 0; what <= 7; what++) {
            answers.add(x.about(what));
        }
    }

    private static void fault(Counted x, List<Integer> answers) {
        answers.add(x.fault(0));
        answers.add(x.fault(1));
    }

    private static void keepers(Counted x, List<Integer> answers) {
        for (int k = 0; k < 7; k++) {
            for (int what = 0; what <= 9; what++) {
                answers.add(x.keeper(k, what));
            }
        }
    }

    private static void row(Counted x, int keeper, List<Integer> answers) {
        for (int entry = 0; entry <= 43; entry++) {
            for (int what = 0; what <= 5; what++) {
                answers.add(x.entry(keeper, entry, what));
            }
        }
    }

    private static void states(Counted x, List<Integer> answers) {
        for (int k = 0; k < 4; k++) {
            for (int cell = 0; cell < 8; cell++) {
                answers.add(x.state(k, cell));
            }
            for (int client = 0; client < 6; client++) {
                answers.add(x.client(k, client, 0));
                answers.add(x.client(k, client, 1));
            }
        }
    }

    private static void peers(Counted x, List<Integer> answers) {
        for (int k = 0; k < 4; k++) {
            for (int other = 0; other < 4; other++) {
                for (int what = 0; what <= 2; what++) {
                    answers.add(x.peer(k, other, what));
                }
            }
        }
    }

    private static void slots(Counted x, int from, List<Integer> answers) {
        for (int slot = from; slot < from + 20; slot++) {
            for (int what = 0; what <= 8; what++) {
                answers.add(x.slot(slot, what));
            }
        }
    }

    private static void reads(Counted x, List<Integer> answers) {
        answers.add(x.about(4));
        for (int read = 0; read < 40; read++) {
            answers.add(x.good(read));
        }
        answers.add(x.read(0, 1));
    }

    private static void history(Counted x, List<Integer> answers) {
        answers.add(x.judge());
        for (int i = 0; i < 9; i++) {
            answers.add(x.order(i));
        }
        answers.add(x.note(0, 9, 1, 1, 3));
        answers.add(x.judge());
        answers.add(x.hush());
    }

    /** What letters hold shows when they come. */
    private static void delivered(Counted x, List<Integer> answers) {
        for (int slot = 39; slot >= 0; slot--) {
            answers.add(x.deliver(slot));
        }
        keepers(x, answers);
        states(x, answers);
    }

    /** What a fold holds shows when its keeper falls. */
    private static void fallen(Counted x, List<Integer> answers) {
        for (int k = 0; k < 4; k++) {
            answers.add(x.fall(k) ? 1 : 0);
        }
        keepers(x, answers);
        states(x, answers);
    }

    private static void acts(Counted x, List<Integer> answers) {
        for (int k = 0; k < 4; k++) {
            answers.add(x.command(k, 1, 98, 1, 1, 3));
            answers.add(x.append(k, (k + 1) % 4));
            answers.add(x.read(k, 1));
            answers.add(x.fold(k, 4));
            answers.add(x.ask(k));
        }
        keepers(x, answers);
        states(x, answers);
    }

    private static void box(Counted x, int box, List<Integer> answers) {
        answers.add(x.back(box));
        numbers(x, answers);
        keepers(x, answers);
        states(x, answers);
    }

    private static void tape(Counted x, List<Integer> answers) {
        answers.add(x.about(6));
        answers.add(x.keepers());
        answers.add(x.fault(0));
        answers.add(x.fault(1));
        answers.add(x.about(0));
        answers.add(x.about(6));
    }
}
