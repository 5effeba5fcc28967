/**
 * One row of entries held by up to seven keepers; each act is the caller's. What it promises stands in the
 * project's document; the words used here (keeper, entry, fold, round, ..) are those of its "Terms".
 */
public final class LogKeepers {
    public static final int NONE = -1;
    public static final int GAP = -1000000;

    private static final int NO_KEEPER = -2;
    private static final int MAX_KEEPERS = 7;
    private static final int BOXES = 3;

    private static final int FOLLOWS = 0;
    private static final int ASKS = 1;
    private static final int LEADS = 2;

    private static final int EMPTY = -1;
    private static final int ASK = 0;
    private static final int BALLOT = 1;
    private static final int APPEND = 2;
    private static final int ANSWER = 3;
    private static final int FOLDING = 4;

    private static final int SET = 0;
    private static final int ADD = 1;
    private static final int RAISE = 2;
    private static final int CLAIM = 3;

    private static final int CELLS = 8;
    private static final int CLIENTS = 6;
    private static final int MAX_NUMBER = 99;

    /** The parts of an entry, in the order in which entry() tells them. */
    private static final int WIDTH = 6;
    private static final int TERM = 0;
    private static final int CLIENT = 1;
    private static final int NUMBER = 2;
    private static final int WHAT = 3;
    private static final int CELL = 4;
    private static final int VALUE = 5;

    private final Tape tape;
    private final World world;
    private final World[] boxes;
    private final boolean[] kept;
    private final History history;

    public LogKeepers() {
        tape = new Tape();
        world = new World();
        boxes = new World[BOXES];
        kept = new boolean[BOXES];
        history = new History();
    }

    public int feed(int a, int b, int c, int d, int e) {
        if (!tape.hasRoomFor(20)) {
            return NONE;
        }
        tape.put(a);
        tape.put(b);
        tape.put(c);
        tape.put(d);
        tape.put(e);
        return tape.length;
    }

    public int end(int n) {
        if (n < 0 || n > tape.length) {
            return NONE;
        }
        tape.length = n;
        return n;
    }

    public int keepers() {
        tape.parse();
        if (tape.fault != 0) {
            return NONE;
        }
        world.begin(tape);
        for (int i = 0; i < BOXES; i++) {
            kept[i] = false;
        }
        return world.count;
    }

    public int fault(int what) {
        switch (what) {
            case 0:
                return tape.fault;
            case 1:
                return tape.faultPlace;
            default:
                return NONE;
        }
    }

    public int ask(int keeper) {
        return world.isKeeper(keeper) ? world.askBy(keeper) : NONE;
    }

    public int deliver(int slot) {
        return world.post.isFull(slot) ? world.deliverFrom(slot) : NONE;
    }

    public int drop(int slot) {
        if (!world.post.isFull(slot)) {
            return NONE;
        }
        int kind = world.post.letters[slot].kind;
        world.post.letters[slot].kind = EMPTY;
        return kind;
    }

    public int twice(int slot) {
        int free = world.post.leastEmpty();
        if (!world.post.isFull(slot) || free == NONE) {
            return NONE;
        }
        world.post.letters[free].copyFrom(world.post.letters[slot]);
        return free;
    }

    public boolean fall(int keeper) {
        if (!world.isUp(keeper)) {
            return false;
        }
        world.keepers[keeper].goDown();
        return true;
    }

    public boolean rise(int keeper) {
        if (!world.isKeeper(keeper) || !world.keepers[keeper].fallen) {
            return false;
        }
        world.keepers[keeper].fallen = false;
        return true;
    }

    public int command(int keeper, int client, int number, int what, int cell, int value) {
        if (!world.isLeading(keeper) || !canBe(client, number, what, cell)) {
            return NONE;
        }
        return world.addCommand(keeper, client, number, what, cell, value);
    }

    public int append(int keeper, int to) {
        if (!world.isLeading(keeper) || !world.isKeeper(to) || keeper == to) {
            return NONE;
        }
        return world.sendOn(keeper, to);
    }

    public int fold(int keeper, int entry) {
        if (!world.isUp(keeper)) {
            return NONE;
        }
        Keeper k = world.keepers[keeper];
        if (entry <= k.folded || entry > k.done) {
            return NONE;
        }
        k.foldUpTo(entry);
        return k.last - k.folded;
    }

    public int read(int keeper, int cell) {
        if (!world.isLeading(keeper) || !isCell(cell)) {
            return NONE;
        }
        return world.beginRead(keeper, cell);
    }

    public int good(int read) {
        return world.reads.isThere(read) && world.isGood(read) ? world.readCell(read) : GAP;
    }

    public int keeper(int keeper, int what) {
        return world.isKeeper(keeper) ? world.keepers[keeper].tell(what) : NO_KEEPER;
    }

    public int entry(int keeper, int entry, int what) {
        if (!world.isKeeper(keeper) || what < TERM || what > VALUE) {
            return GAP;
        }
        return world.keepers[keeper].part(entry, what);
    }

    public int state(int keeper, int cell) {
        return world.isKeeper(keeper) && isCell(cell) ? world.keepers[keeper].doneState.cellAt(cell) : GAP;
    }

    public int client(int keeper, int client, int what) {
        if (!world.isKeeper(keeper) || !isClient(client)) {
            return GAP;
        }
        State state = world.keepers[keeper].doneState;
        switch (what) {
            case 0:
                return state.latestOf(client);
            case 1:
                return state.answerOf(client);
            default:
                return GAP;
        }
    }

    public int peer(int keeper, int other, int what) {
        if (!world.isLeading(keeper) || !world.isKeeper(other) || keeper == other) {
            return NONE;
        }
        Keeper k = world.keepers[keeper];
        switch (what) {
            case 0:
                return k.next[other];
            case 1:
                return k.sure[other];
            case 2:
                return k.answered[other];
            default:
                return NONE;
        }
    }

    public int slot(int slot, int what) {
        return world.post.isFull(slot) ? world.post.letters[slot].tell(what) : NONE;
    }

    public int note(int begun, int ended, int what, int value, int answer) {
        if (begun < 0 || ended < begun || ended > History.LATEST || !isWhat(what) || history.isFull()) {
            return NONE;
        }
        return history.add(begun, ended, what, value, answer);
    }

    public int hush() {
        return history.clear();
    }

    public int judge() {
        return history.isRight() ? 1 : 0;
    }

    public int order(int i) {
        if (i < 0 || i >= history.size || !history.isRight()) {
            return NONE;
        }
        return history.first[i];
    }

    public int image(int box) {
        if (!isBox(box)) {
            return NONE;
        }
        if (boxes[box] == null) {
            boxes[box] = new World();
        }
        boxes[box].copyFrom(world);
        kept[box] = true;
        return world.post.countFull();
    }

    public int back(int box) {
        if (!isBox(box) || !kept[box] || boxes[box] == null) {
            return NONE;
        }
        world.copyFrom(boxes[box]);
        return world.post.countFull();
    }

    public int about(int what) {
        switch (what) {
            case 0:
                return world.count;
            case 1:
                return world.voters;
            case 2:
                return world.most();
            case 3:
                return world.post.countFull();
            case 4:
                return world.reads.size;
            case 5:
                return history.size;
            case 6:
                return tape.length;
            case 7:
                return world.countUp();
            default:
                return NONE;
        }
    }

    private static boolean canBe(int client, int number, int what, int cell) {
        return isClient(client) && number >= 1 && number <= MAX_NUMBER && isWhat(what) && isCell(cell);
    }

    private static boolean isClient(int client) {
        return client >= 0 && client < CLIENTS;
    }

    private static boolean isWhat(int what) {
        return what >= SET && what <= CLAIM;
    }

    private static boolean isCell(int cell) {
        return cell >= 0 && cell < CELLS;
    }

    private static boolean isBox(int box) {
        return box >= 0 && box < BOXES;
    }

    /** What a cell is behind a command that counts. */
    private static int cellBehind(int what, int was, int value) {
        switch (what) {
            case SET:
                return value;
            case ADD:
                return was + value;
            case RAISE:
                return Math.max(was, value);
            default:
                return was == 0 ? value : was;
        }
    }

    /** What a command that counts answers, of what the cell was and what it is then. */
    private static int answerTo(int what, int was, int is) {
        switch (what) {
            case SET:
                return was;
            case CLAIM:
                return was == 0 ? 1 : 0;
            default:
                return is;
        }
    }

    /** The bytes fed so far, and what was told by the text that they last were. */
    private static final class Tape {
        static final int SIZE = 400;
        static final int MAX_WORD = 8;
        static final int NO_TOKEN = 1;
        static final int MISPLACED = 2;
        static final int TOLD_ALREADY = 3;
        static final int NO_VOTERS = 4;
        static final int DUE_KEEPER = 0;
        static final int DUE_NAME = 1;
        static final int DUE_SILENT_OR_END = 2;
        static final int DUE_END = 3;

        final byte[] bytes = new byte[SIZE];
        final int[] nameAt = new int[MAX_KEEPERS];
        final int[] nameLength = new int[MAX_KEEPERS];
        final boolean[] silent = new boolean[MAX_KEEPERS];
        int length;
        int told;
        int fault;
        int faultPlace = NONE;
        int tokenAt;
        int tokenEnd;

        boolean hasRoomFor(int more) {
            return length + more <= SIZE;
        }

        void put(int four) {
            for (int shift = 24; shift >= 0; shift -= 8) {
                if (length < SIZE) {
                    bytes[length] = (byte) (four >> shift);
                    length++;
                }
            }
        }

        /** The tape is read up to its first fault, and is empty then. */
        void parse() {
            told = 0;
            fault = 0;
            faultPlace = NONE;
            tokenEnd = 0;
            int due = DUE_KEEPER;
            for (int i = 0; i < SIZE && fault == 0 && findToken(); i++) {
                due = takeToken(due);
            }
            if (fault == 0 && due != DUE_KEEPER) {
                blame(MISPLACED, length);
            }
            if (fault == 0 && countVoters() == 0) {
                blame(NO_VOTERS, length);
            }
            length = 0;
        }

        void blame(int newFault, int place) {
            fault = newFault;
            faultPlace = place;
        }

        int countVoters() {
            int voters = 0;
            for (int i = 0; i < told; i++) {
                voters += silent[i] ? 0 : 1;
            }
            return voters;
        }

        int byteAt(int at) {
            return at >= 0 && at < length && at < SIZE ? bytes[at] & 255 : NONE;
        }

        boolean isLetter(int at) {
            int sign = byteAt(at);
            return sign >= 'a' && sign <= 'z';
        }

        boolean isBlank(int at) {
            int sign = byteAt(at);
            return sign == 32 || sign == 10;
        }

        /** Finds the next token; false at the end of the text, or where none begins. */
        boolean findToken() {
            tokenAt = tokenEnd;
            while (tokenAt < length && isBlank(tokenAt)) {
                tokenAt++;
            }
            if (tokenAt >= length) {
                return false;
            }
            tokenEnd = byteAt(tokenAt) == ';' ? tokenAt + 1 : endOfLetters(tokenAt);
            // A word never stops amid letters, so a run that is too long holds no token at all.
            if (tokenEnd == tokenAt || tokenEnd - tokenAt > MAX_WORD) {
                blame(NO_TOKEN, tokenAt);
                return false;
            }
            return true;
        }

        int endOfLetters(int from) {
            int at = from;
            while (at < length && isLetter(at)) {
                at++;
            }
            return at;
        }

        /** Takes the token where the due one stands; says which is due behind it. */
        int takeToken(int due) {
            switch (due) {
                case DUE_KEEPER:
                    if (tokenIs("keeper") && told < MAX_KEEPERS) {
                        return DUE_NAME;
                    }
                    break;
                case DUE_NAME:
                    if (isLetter(tokenAt) && !tokenIs("keeper") && !tokenIs("silent")) {
                        takeName();
                        return DUE_SILENT_OR_END;
                    }
                    break;
                default:
                    if (tokenIs(";")) {
                        return DUE_KEEPER;
                    }
                    if (due == DUE_SILENT_OR_END && tokenIs("silent")) {
                        markSilent();
                        return DUE_END;
                    }
                    break;
            }
            blame(MISPLACED, tokenAt);
            return due;
        }

        void takeName() {
            for (int i = 0; i < told; i++) {
                if (tokenIsName(i)) {
                    blame(TOLD_ALREADY, tokenAt);
                    return;
                }
            }
            if (told < MAX_KEEPERS) {
                nameAt[told] = tokenAt;
                nameLength[told] = tokenEnd - tokenAt;
                silent[told] = false;
                told++;
            }
        }

        void markSilent() {
            if (told > 0 && told <= MAX_KEEPERS) {
                silent[told - 1] = true;
            }
        }

        boolean tokenIs(String word) {
            boolean same = word.length() == tokenEnd - tokenAt;
            for (int i = 0; same && i < word.length(); i++) {
                same = byteAt(tokenAt + i) == word.charAt(i);
            }
            return same;
        }

        boolean tokenIsName(int name) {
            boolean same = nameLength[name] == tokenEnd - tokenAt;
            for (int i = 0; same && i < nameLength[name]; i++) {
                same = byteAt(tokenAt + i) == byteAt(nameAt[name] + i);
            }
            return same;
        }
    }

    /** The cells, and of each client the latest number and its answer, in one row. */
    private static final class State {
        static final int LATEST_AT = CELLS;
        static final int ANSWERS_AT = CELLS + CLIENTS;
        static final int SIZE = CELLS + 2 * CLIENTS;

        final int[] parts = new int[SIZE];

        void clear() {
            for (int i = 0; i < SIZE; i++) {
                parts[i] = 0;
            }
        }

        void copyFrom(State other) {
            System.arraycopy(other.parts, 0, parts, 0, SIZE);
        }

        int cellAt(int cell) {
            return isCell(cell) ? parts[cell] : GAP;
        }

        int latestOf(int client) {
            return isClient(client) ? parts[LATEST_AT + client] : GAP;
        }

        int answerOf(int client) {
            return isClient(client) ? parts[ANSWERS_AT + client] : GAP;
        }

        /** Takes in the entry whose parts stand from a place on in a row. */
        void take(int[] entries, int at) {
            if (at < 0 || at > entries.length - WIDTH) {
                return;
            }
            int client = entries[at + CLIENT];
            int cell = entries[at + CELL];
            if (!isClient(client) || !isCell(cell) || entries[at + NUMBER] <= parts[LATEST_AT + client]) {
                return;
            }
            int what = entries[at + WHAT];
            int was = parts[cell];
            parts[cell] = cellBehind(what, was, entries[at + VALUE]);
            parts[LATEST_AT + client] = entries[at + NUMBER];
            parts[ANSWERS_AT + client] = answerTo(what, was, parts[cell]);
        }
    }

    /** What one keeper has, saved or not. */
    private static final class Keeper {
        static final int ROOM = 40;

        boolean voter;
        boolean fallen;
        int term;
        int vote;
        int role;
        int folded;
        int foldTerm;
        int last;
        int done;
        int ballots;
        int round;
        final int[] entries = new int[ROOM * WIDTH];
        final State foldState = new State();
        final State doneState = new State();
        final int[] next = new int[MAX_KEEPERS];
        final int[] sure = new int[MAX_KEEPERS];
        final int[] answered = new int[MAX_KEEPERS];
        /** As answered, but of rounds of the present term alone: older ones came ahead of every read of it. */
        final int[] heard = new int[MAX_KEEPERS];

        void begin(boolean isVoter) {
            voter = isVoter;
            fallen = false;
            term = 0;
            vote = NONE;
            folded = 0;
            foldTerm = 0;
            last = 0;
            done = 0;
            foldState.clear();
            doneState.clear();
            follow();
        }

        void copyFrom(Keeper other) {
            voter = other.voter;
            fallen = other.fallen;
            term = other.term;
            vote = other.vote;
            role = other.role;
            folded = other.folded;
            foldTerm = other.foldTerm;
            last = other.last;
            done = other.done;
            ballots = other.ballots;
            round = other.round;
            System.arraycopy(other.entries, 0, entries, 0, ROOM * WIDTH);
            foldState.copyFrom(other.foldState);
            doneState.copyFrom(other.doneState);
            System.arraycopy(other.next, 0, next, 0, MAX_KEEPERS);
            System.arraycopy(other.sure, 0, sure, 0, MAX_KEEPERS);
            System.arraycopy(other.answered, 0, answered, 0, MAX_KEEPERS);
            System.arraycopy(other.heard, 0, heard, 0, MAX_KEEPERS);
        }

        int tell(int what) {
            switch (what) {
                case 0:
                    return term;
                case 1:
                    return vote;
                case 2:
                    return role;
                case 3:
                    return folded;
                case 4:
                    return last;
                case 5:
                    return done;
                case 6:
                    return fallen ? 1 : 0;
                case 7:
                    return ballots;
                case 8:
                    return round;
                case 9:
                    return voter ? 1 : 0;
                default:
                    return NO_KEEPER;
            }
        }

        void follow() {
            role = FOLLOWS;
            ballots = 0;
            round = 0;
        }

        void enterTerm(int newTerm) {
            term = newTerm;
            vote = NONE;
            follow();
        }

        void lead() {
            role = LEADS;
            round = 0;
            for (int i = 0; i < MAX_KEEPERS; i++) {
                next[i] = last + 1;
                sure[i] = 0;
                answered[i] = 0;
                heard[i] = 0;
            }
        }

        void goDown() {
            fallen = true;
            follow();
            done = folded;
            doneState.copyFrom(foldState);
        }

        /** Where an entry stands in the row of entries; NONE if it is not held there. */
        int placeOf(int entry) {
            if (entry <= folded || entry > last || entry - folded > ROOM) {
                return NONE;
            }
            return (entry - folded - 1) * WIDTH;
        }

        int part(int entry, int what) {
            int at = placeOf(entry);
            return at == NONE ? GAP : entries[at + what];
        }

        /** The term of an entry that is held, or of the last folded one; NONE of others. */
        int termOf(int entry) {
            if (entry == folded) {
                return foldTerm;
            }
            int at = placeOf(entry);
            return at == NONE ? NONE : entries[at + TERM];
        }

        boolean hasRoom() {
            return last - folded < ROOM;
        }

        /** Makes the row one longer; answers where the new entry's parts belong, NONE without room. */
        int grow() {
            if (!hasRoom()) {
                return NONE;
            }
            last++;
            return placeOf(last);
        }

        void cutFrom(int entry) {
            last = Math.min(last, Math.max(entry - 1, done));
        }

        void advanceTo(int entry) {
            while (done < entry && done < last) {
                done++;
                doneState.take(entries, placeOf(done));
            }
        }

        void foldUpTo(int entry) {
            int entryTerm = termOf(entry);
            for (int i = folded + 1; i <= entry && i <= last; i++) {
                foldState.take(entries, placeOf(i));
            }
            forgetUpTo(entry);
            foldTerm = entryTerm;
        }

        /** The row goes on behind that entry, which becomes the last folded one. */
        void forgetUpTo(int entry) {
            int from = placeOf(entry);
            if (from == NONE) {
                last = entry;
            } else {
                from += WIDTH;
                System.arraycopy(entries, from, entries, 0, ROOM * WIDTH - from);
            }
            folded = entry;
        }

        /** Takes over a fold that another one sent; entries stay only behind an entry that fits it. */
        void takeFold(int entry, int entryTerm, State state) {
            if (placeOf(entry) == NONE || termOf(entry) != entryTerm) {
                last = folded;
            }
            forgetUpTo(entry);
            foldTerm = entryTerm;
            foldState.copyFrom(state);
            done = folded;
            doneState.copyFrom(foldState);
        }
    }

    /** A letter in a slot; its kind is EMPTY if none is there. */
    private static final class Letter {
        static final int MAX_ENTRIES = 5;

        int kind = EMPTY;
        int sender;
        int receiver;
        int term;
        int first;
        int second;
        int count;
        int done;
        int round;
        /** The term in which the round came; an answer may have a later term than what it answers. */
        int roundTerm;
        final int[] entries = new int[MAX_ENTRIES * WIDTH];
        final State fold = new State();

        void write(int newKind, int from, int to, int itsTerm) {
            kind = newKind;
            sender = from;
            receiver = to;
            term = itsTerm;
            first = 0;
            second = 0;
            count = 0;
            done = 0;
            round = 0;
            roundTerm = itsTerm;
        }

        void copyFrom(Letter other) {
            kind = other.kind;
            sender = other.sender;
            receiver = other.receiver;
            term = other.term;
            first = other.first;
            second = other.second;
            count = other.count;
            done = other.done;
            round = other.round;
            roundTerm = other.roundTerm;
            System.arraycopy(other.entries, 0, entries, 0, MAX_ENTRIES * WIDTH);
            fold.copyFrom(other.fold);
        }

        int tell(int what) {
            switch (what) {
                case 0:
                    return kind;
                case 1:
                    return sender;
                case 2:
                    return receiver;
                case 3:
                    return term;
                case 4:
                    return first;
                case 5:
                    return second;
                case 6:
                    return count;
                case 7:
                    return done;
                case 8:
                    return round;
                default:
                    return NONE;
            }
        }

        void takeFold(Keeper from) {
            first = from.folded;
            second = from.foldTerm;
            fold.copyFrom(from.foldState);
        }

        /** Puts in a leader's entries from one on, as many as there are and fit. */
        void takeEntries(Keeper from, int entry) {
            first = entry - 1;
            second = from.termOf(entry - 1);
            done = from.done;
            for (int i = 0; i < MAX_ENTRIES; i++) {
                int at = from.placeOf(entry + i);
                if (at == NONE) {
                    return;
                }
                System.arraycopy(from.entries, at, entries, count * WIDTH, WIDTH);
                count++;
            }
        }

        int termAt(int i) {
            return i >= 0 && i < MAX_ENTRIES ? entries[i * WIDTH + TERM] : NONE;
        }
    }

    /** The slots with their letters. */
    private static final class Post {
        static final int SLOTS = 40;

        final Letter[] letters;
        /** The letter that is being delivered; its slot may take the reply. */
        final Letter hand;

        Post() {
            letters = new Letter[SLOTS];
            for (int i = 0; i < SLOTS; i++) {
                letters[i] = new Letter();
            }
            hand = new Letter();
        }

        void clear() {
            for (int i = 0; i < SLOTS; i++) {
                letters[i].kind = EMPTY;
            }
        }

        void copyFrom(Post other) {
            for (int i = 0; i < SLOTS; i++) {
                letters[i].copyFrom(other.letters[i]);
            }
        }

        boolean isFull(int slot) {
            return slot >= 0 && slot < SLOTS && letters[slot].kind != EMPTY;
        }

        int countFull() {
            int full = 0;
            for (int i = 0; i < SLOTS; i++) {
                full += letters[i].kind == EMPTY ? 0 : 1;
            }
            return full;
        }

        int leastEmpty() {
            for (int i = 0; i < SLOTS; i++) {
                if (letters[i].kind == EMPTY) {
                    return i;
                }
            }
            return NONE;
        }

        Letter takeOut(int slot) {
            if (isFull(slot)) {
                hand.copyFrom(letters[slot]);
                letters[slot].kind = EMPTY;
            }
            return hand;
        }
    }

    /** The reads begun so far: of each its keeper, cell, and the term and round of its beginning. */
    private static final class Reads {
        static final int MAX = 40;

        final int[] keeper = new int[MAX];
        final int[] cell = new int[MAX];
        final int[] term = new int[MAX];
        final int[] round = new int[MAX];
        int size;

        boolean isThere(int i) {
            return i >= 0 && i < size && i < MAX;
        }

        int add(int newKeeper, int newCell, int newTerm, int newRound) {
            if (size >= MAX) {
                return NONE;
            }
            keeper[size] = newKeeper;
            cell[size] = newCell;
            term[size] = newTerm;
            round[size] = newRound;
            size++;
            return size - 1;
        }

        void copyFrom(Reads other) {
            System.arraycopy(other.keeper, 0, keeper, 0, MAX);
            System.arraycopy(other.cell, 0, cell, 0, MAX);
            System.arraycopy(other.term, 0, term, 0, MAX);
            System.arraycopy(other.round, 0, round, 0, MAX);
            size = other.size;
        }
    }

    /** All that an image keeps: the keepers, the post, the reads; and the acts upon them. */
    private static final class World {
        final Keeper[] keepers;
        final Post post;
        final Reads reads;
        int count;
        int voters;

        World() {
            keepers = new Keeper[MAX_KEEPERS];
            for (int i = 0; i < MAX_KEEPERS; i++) {
                keepers[i] = new Keeper();
            }
            post = new Post();
            reads = new Reads();
        }

        void begin(Tape tape) {
            count = Math.min(tape.told, MAX_KEEPERS);
            voters = tape.countVoters();
            for (int i = 0; i < count; i++) {
                keepers[i].begin(!tape.silent[i]);
            }
            post.clear();
            reads.size = 0;
        }

        void copyFrom(World other) {
            count = other.count;
            voters = other.voters;
            for (int i = 0; i < MAX_KEEPERS; i++) {
                keepers[i].copyFrom(other.keepers[i]);
            }
            post.copyFrom(other.post);
            reads.copyFrom(other.reads);
        }

        boolean isKeeper(int keeper) {
            return keeper >= 0 && keeper < count && keeper < MAX_KEEPERS;
        }

        boolean isUp(int keeper) {
            return isKeeper(keeper) && !keepers[keeper].fallen;
        }

        boolean isLeading(int keeper) {
            return isUp(keeper) && keepers[keeper].role == LEADS;
        }

        int most() {
            return voters == 0 ? 0 : voters / 2 + 1;
        }

        int countUp() {
            int up = 0;
            for (int i = 0; i < count; i++) {
                up += isUp(i) ? 1 : 0;
            }
            return up;
        }

        int askBy(int keeper) {
            Keeper k = keepers[keeper];
            int empty = Post.SLOTS - post.countFull();
            if (k.fallen || !k.voter || k.role == LEADS || empty < voters - 1) {
                return NONE;
            }
            k.enterTerm(k.term + 1);
            k.vote = keeper;
            k.role = ASKS;
            k.ballots = 1 << keeper;
            for (int i = 0; i < count; i++) {
                if (i != keeper && keepers[i].voter) {
                    sendAsk(keeper, i);
                }
            }
            leadIfChosen(k);
            return k.term;
        }

        void sendAsk(int keeper, int to) {
            Letter letter = send(ASK, keeper, to);
            if (letter != null) {
                Keeper k = keepers[keeper];
                letter.first = k.last;
                letter.second = k.termOf(k.last);
            }
        }

        void leadIfChosen(Keeper k) {
            if (k.role == ASKS && Integer.bitCount(k.ballots) >= most()) {
                k.lead();
            }
        }

        /** Puts a letter of its sender's present term into the least empty slot; null if there is none. */
        Letter send(int kind, int from, int to) {
            int slot = post.leastEmpty();
            if (slot == NONE) {
                return null;
            }
            Letter letter = post.letters[slot];
            letter.write(kind, from, to, keepers[from].term);
            return letter;
        }

        int addCommand(int keeper, int client, int number, int what, int cell, int value) {
            Keeper k = keepers[keeper];
            int at = k.grow();
            if (at == NONE) {
                return NONE;
            }
            k.entries[at + TERM] = k.term;
            k.entries[at + CLIENT] = client;
            k.entries[at + NUMBER] = number;
            k.entries[at + WHAT] = what;
            k.entries[at + CELL] = cell;
            k.entries[at + VALUE] = value;
            settle(keeper);
            return k.last;
        }

        /** What a leader has done moves on to the greatest entry of its term that most are sure of. */
        void settle(int keeper) {
            Keeper k = keepers[keeper];
            for (int entry = k.last; entry > k.done; entry--) {
                if (k.termOf(entry) == k.term && countSure(keeper, entry) >= most()) {
                    k.advanceTo(entry);
                    return;
                }
            }
        }

        int countSure(int keeper, int entry) {
            int sure = 0;
            for (int i = 0; i < count; i++) {
                if (keepers[i].voter && (i == keeper || keepers[keeper].sure[i] >= entry)) {
                    sure++;
                }
            }
            return sure;
        }

        /** Sends entries, or the fold if they are folded; answers the letter's slot. */
        int sendOn(int keeper, int to) {
            Keeper k = keepers[keeper];
            int slot = post.leastEmpty();
            Letter letter = send(k.next[to] <= k.folded ? FOLDING : APPEND, keeper, to);
            if (letter == null) {
                return NONE;
            }
            k.round++;
            letter.round = k.round;
            if (letter.kind == FOLDING) {
                letter.takeFold(k);
            } else {
                letter.takeEntries(k, k.next[to]);
            }
            return slot;
        }

        /** Delivers the letter in a slot that is full; answers how many letters its receiver sends. */
        int deliverFrom(int slot) {
            Letter letter = post.takeOut(slot);
            if (!isUp(letter.receiver) || !isKeeper(letter.sender)) {
                return 0;
            }
            Keeper k = keepers[letter.receiver];
            if (letter.term > k.term) {
                k.enterTerm(letter.term);
            }
            switch (letter.kind) {
                case ASK:
                    return takeAsk(k, letter);
                case BALLOT:
                    return takeBallot(k, letter);
                case ANSWER:
                    return takeAnswer(k, letter);
                default:
                    return takeFromLeader(k, letter);
            }
        }

        int reply(Letter letter, int kind, boolean yes, int number) {
            Letter back = send(kind, letter.receiver, letter.sender);
            if (back == null) {
                return 0;
            }
            back.first = yes ? 1 : 0;
            back.second = number;
            back.round = letter.round;
            back.roundTerm = letter.roundTerm;
            return 1;
        }

        int takeAsk(Keeper k, Letter letter) {
            boolean free = k.vote == NONE || k.vote == letter.sender;
            boolean yes = k.voter && k.term == letter.term && free && !isAhead(k, letter);
            if (yes) {
                k.vote = letter.sender;
            }
            return reply(letter, BALLOT, yes, 0);
        }

        /** Whether a keeper's row goes further than that of the one who asks for its vote. */
        boolean isAhead(Keeper k, Letter letter) {
            int lastTerm = k.termOf(k.last);
            return lastTerm > letter.second || lastTerm == letter.second && k.last > letter.first;
        }

        int takeBallot(Keeper k, Letter letter) {
            if (k.role == ASKS && k.term == letter.term && letter.first == 1) {
                k.ballots |= 1 << letter.sender;
                leadIfChosen(k);
            }
            return 0;
        }

        int takeAnswer(Keeper k, Letter letter) {
            if (k.role != LEADS || k.term != letter.term) {
                return 0;
            }
            int from = letter.sender;
            k.answered[from] = Math.max(k.answered[from], letter.round);
            if (letter.roundTerm == k.term) {
                k.heard[from] = Math.max(k.heard[from], letter.round);
            }
            if (letter.first == 1) {
                k.sure[from] = Math.max(k.sure[from], letter.second);
                k.next[from] = k.sure[from] + 1;
            } else {
                k.next[from] = Math.max(1, Math.min(k.next[from] - 1, letter.second + 1));
            }
            settle(letter.receiver);
            return 0;
        }

        int takeFromLeader(Keeper k, Letter letter) {
            if (letter.term < k.term) {
                return reply(letter, ANSWER, false, 0);
            }
            if (k.role == LEADS) {
                return 0;
            }
            k.follow();
            if (letter.kind == FOLDING) {
                return takeFolding(k, letter);
            }
            return takeAppend(k, letter);
        }

        int takeFolding(Keeper k, Letter letter) {
            if (letter.first > k.done) {
                k.takeFold(letter.first, letter.second, letter.fold);
            }
            return reply(letter, ANSWER, true, letter.first);
        }

        int takeAppend(Keeper k, Letter letter) {
            int ahead = letter.first;
            if (ahead > k.last || ahead > k.folded && k.termOf(ahead) != letter.second) {
                k.cutFrom(ahead);
                return reply(letter, ANSWER, false, Math.max(0, Math.min(k.last, ahead - 1)));
            }
            int reached = takeEntries(k, letter);
            k.advanceTo(Math.min(letter.done, reached));
            return reply(letter, ANSWER, true, reached);
        }

        /** Goes through a letter's entries; answers the last one that was passed over, had, or added. */
        int takeEntries(Keeper k, Letter letter) {
            int reached = letter.first;
            for (int i = 0; i < letter.count && i < Letter.MAX_ENTRIES; i++) {
                int entry = reached + 1;
                if (entry > k.folded && k.termOf(entry) != letter.termAt(i)) {
                    k.cutFrom(entry);
                    int at = k.grow();
                    if (at == NONE) {
                        return reached;
                    }
                    System.arraycopy(letter.entries, i * WIDTH, k.entries, at, WIDTH);
                }
                reached = entry;
            }
            return reached;
        }

        int beginRead(int keeper, int cell) {
            Keeper k = keepers[keeper];
            if (k.termOf(k.done) != k.term) {
                return NONE;
            }
            return reads.add(keeper, cell, k.term, k.round);
        }

        boolean isGood(int read) {
            int keeper = reads.keeper[read];
            if (!isLeading(keeper) || keepers[keeper].term != reads.term[read]) {
                return false;
            }
            int answered = 0;
            for (int i = 0; i < count; i++) {
                if (keepers[i].voter && (i == keeper || keepers[keeper].heard[i] > reads.round[read])) {
                    answered++;
                }
            }
            return answered >= most();
        }

        int readCell(int read) {
            int keeper = reads.keeper[read];
            return isKeeper(keeper) ? keepers[keeper].doneState.cellAt(reads.cell[read]) : GAP;
        }
    }

    /** The noted commands, and the first order in which they could have been. */
    private static final class History {
        static final int MAX = 9;
        static final int LATEST = 9999;

        final int[] begun = new int[MAX];
        final int[] ended = new int[MAX];
        final int[] what = new int[MAX];
        final int[] value = new int[MAX];
        final int[] answer = new int[MAX];
        final int[] first = new int[MAX];
        /** Of each set of commands that came ahead, by whom the cell could be written so that no order is left. */
        final int[] hopeless = new int[1 << MAX];
        int size;
        boolean judged;
        boolean right;

        boolean isFull() {
            return size >= MAX;
        }

        int add(int newBegun, int newEnded, int newWhat, int newValue, int newAnswer) {
            if (isFull()) {
                return NONE;
            }
            begun[size] = newBegun;
            ended[size] = newEnded;
            what[size] = newWhat;
            value[size] = newValue;
            answer[size] = newAnswer;
            size++;
            judged = false;
            return size - 1;
        }

        int clear() {
            int were = size;
            size = 0;
            judged = false;
            return were;
        }

        boolean isRight() {
            if (!judged) {
                for (int i = 0; i < 1 << MAX; i++) {
                    hopeless[i] = 0;
                }
                right = canGoOn(0, 0, 0, MAX);
                judged = true;
            }
            return right;
        }

        /**
         * Whether the commands that are left can follow those that came; writer is the one that the cell has its
         * value from (MAX: none). A command's answer tells what it leaves in the cell, so the writer stands for it.
         */
        private boolean canGoOn(int depth, int came, int cell, int writer) {
            if (depth >= size || depth >= MAX) {
                return true;
            }
            if ((hopeless[came] >> writer & 1) != 0) {
                return false;
            }
            for (int i = 0; i < size; i++) {
                int then = cellBehind(what[i], cell, value[i]);
                if (canBeNext(i, came) && answerTo(what[i], cell, then) == answer[i]) {
                    boolean writes = what[i] != CLAIM || answer[i] == 1;
                    first[depth] = i;
                    if (canGoOn(depth + 1, came | 1 << i, then, writes ? i : writer)) {
                        return true;
                    }
                }
            }
            hopeless[came] |= 1 << writer;
            return false;
        }

        boolean canBeNext(int i, int came) {
            if ((came >> i & 1) != 0) {
                return false;
            }
            for (int other = 0; other < size; other++) {
                if ((came >> other & 1) == 0 && ended[other] < begun[i]) {
                    return false;
                }
            }
            return true;
        }
    }
}
