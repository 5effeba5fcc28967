import java.util.ArrayList;
import java.util.Arrays;
import java.util.List;

/**
 * The keepers, post and reads once more, told from the document in the plainest way: rows are never forgotten (a
 * fold is only a mark), every state is made anew from entry 1 on or from the state that a folding brought.
 */
final class Model {
    static final int NONE = -1;
    static final int GAP = -1000000;

    static final class Entry {
        int term;
        int client;
        int number;
        int what;
        int cell;
        int value;
    }

    static final class Letter {
        int kind;
        int from;
        int to;
        int term;
        int a;
        int b;
        int done;
        int round;
        int moment;
        List<Entry> entries = new ArrayList<>();
        int[] state;
    }

    static final class Keeper {
        boolean voter;
        boolean fallen;
        int term;
        int vote = NONE;
        int role;
        int folded;
        int foldTerm;
        int[] foldState = new int[20];
        /** The entry of number n stands at n; those up to the fold are null. */
        List<Entry> log = new ArrayList<>(Arrays.asList((Entry) null));
        int done;
        int ballots;
        int round;
        int[] next = new int[7];
        int[] sure = new int[7];
        int[] answered = new int[7];
        /** When the latest sent of the rounds that each one answered was sent. */
        int[] heard = new int[7];

        int last() {
            return log.size() - 1;
        }

        int termAt(int n) {
            return n == folded ? foldTerm : log.get(n).term;
        }

        int[] stateAt(int n) {
            int[] state = foldState.clone();
            for (int i = folded + 1; i <= n; i++) {
                Entry e = log.get(i);
                if (e.number <= state[8 + e.client]) {
                    continue;
                }
                int was = state[e.cell];
                int is;
                int answer;
                if (e.what == 0) {
                    is = e.value;
                    answer = was;
                } else if (e.what == 1) {
                    is = was + e.value;
                    answer = is;
                } else if (e.what == 2) {
                    is = e.value > was ? e.value : was;
                    answer = is;
                } else {
                    is = was == 0 ? e.value : was;
                    answer = was == 0 ? 1 : 0;
                }
                state[e.cell] = is;
                state[8 + e.client] = e.number;
                state[14 + e.client] = answer;
            }
            return state;
        }

        void cut(int from) {
            while (last() >= from && last() > done) {
                log.remove(last());
            }
        }

        Keeper copy() {
            Keeper c = new Keeper();
            c.voter = voter;
            c.fallen = fallen;
            c.term = term;
            c.vote = vote;
            c.role = role;
            c.folded = folded;
            c.foldTerm = foldTerm;
            c.foldState = foldState.clone();
            c.log = new ArrayList<>(log);
            c.done = done;
            c.ballots = ballots;
            c.round = round;
            c.next = next.clone();
            c.sure = sure.clone();
            c.answered = answered.clone();
            c.heard = heard.clone();
            return c;
        }
    }

    List<Keeper> keepers = new ArrayList<>();
    Letter[] post = new Letter[40];
    List<int[]> reads = new ArrayList<>();
    /** One more with each append, of any keeper in any term: what came behind a read has a greater one. */
    int moment;
    /** The greatest entry that was done with any keeper so far, though it may have fallen since. */
    int doneEver;

    Model(boolean[] voters) {
        for (boolean voter : voters) {
            Keeper k = new Keeper();
            k.voter = voter;
            keepers.add(k);
        }
    }

    Model copy() {
        Model c = new Model(new boolean[0]);
        for (Keeper k : keepers) {
            c.keepers.add(k.copy());
        }
        c.post = post.clone();
        c.reads = new ArrayList<>(reads);
        c.moment = moment;
        c.doneEver = doneEver;
        return c;
    }

    int voters() {
        int n = 0;
        for (Keeper k : keepers) {
            n += k.voter ? 1 : 0;
        }
        return n;
    }

    void remember() {
        for (Keeper k : keepers) {
            doneEver = Math.max(doneEver, k.done);
        }
    }

    boolean most(int n) {
        return 2 * n > voters();
    }

    int letters() {
        int n = 0;
        for (Letter l : post) {
            n += l == null ? 0 : 1;
        }
        return n;
    }

    Keeper at(int k) {
        return k < 0 || k >= keepers.size() ? null : keepers.get(k);
    }

    Keeper leader(int k) {
        Keeper x = at(k);
        return x == null || x.fallen || x.role != 2 ? null : x;
    }

    boolean full(int slot) {
        return slot >= 0 && slot < 40 && post[slot] != null;
    }

    int put(Letter l) {
        for (int i = 0; i < 40; i++) {
            if (post[i] == null) {
                post[i] = l;
                return i;
            }
        }
        throw new IllegalStateException("no slot");
    }

    Letter letter(int kind, int from, int to, int a, int b) {
        Letter l = new Letter();
        l.kind = kind;
        l.from = from;
        l.to = to;
        l.term = at(from).term;
        l.a = a;
        l.b = b;
        return l;
    }

    int ask(int k) {
        Keeper x = at(k);
        if (x == null || x.fallen || !x.voter || x.role == 2 || 40 - letters() < voters() - 1) {
            return NONE;
        }
        x.term++;
        x.vote = k;
        x.role = 1;
        x.ballots = 1 << k;
        for (int i = 0; i < keepers.size(); i++) {
            if (i != k && at(i).voter) {
                put(letter(0, k, i, x.last(), x.termAt(x.last())));
            }
        }
        chosen(x);
        return x.term;
    }

    void chosen(Keeper x) {
        if (x.role == 1 && most(Integer.bitCount(x.ballots))) {
            x.role = 2;
            x.round = 0;
            Arrays.fill(x.next, x.last() + 1);
            Arrays.fill(x.sure, 0);
            Arrays.fill(x.answered, 0);
            Arrays.fill(x.heard, 0);
        }
    }

    int command(int k, int client, int number, int what, int cell, int value) {
        Keeper x = leader(k);
        if (x == null || x.last() - x.folded >= 40 || client < 0 || client > 5 || number < 1 || number > 99
                || what < 0 || what > 3 || cell < 0 || cell > 7) {
            return NONE;
        }
        Entry e = new Entry();
        e.term = x.term;
        e.client = client;
        e.number = number;
        e.what = what;
        e.cell = cell;
        e.value = value;
        x.log.add(e);
        settle(k);
        return x.last();
    }

    void settle(int k) {
        Keeper x = at(k);
        for (int n = x.done + 1; n <= x.last(); n++) {
            int sure = 0;
            for (int i = 0; i < keepers.size(); i++) {
                sure += at(i).voter && (i == k || x.sure[i] >= n) ? 1 : 0;
            }
            if (x.termAt(n) == x.term && most(sure)) {
                x.done = n;
            }
        }
    }

    int append(int k, int to) {
        Keeper x = leader(k);
        if (x == null || at(to) == null || k == to || letters() == 40) {
            return NONE;
        }
        x.round++;
        Letter l;
        if (x.next[to] <= x.folded) {
            l = letter(4, k, to, x.folded, x.foldTerm);
            l.state = x.foldState.clone();
        } else {
            int next = x.next[to];
            l = letter(2, k, to, next - 1, x.termAt(next - 1));
            l.entries.addAll(x.log.subList(next, Math.min(next + 5, x.last() + 1)));
            l.done = x.done;
        }
        l.round = x.round;
        moment++;
        l.moment = moment;
        return put(l);
    }

    int fold(int k, int entry) {
        Keeper x = at(k);
        if (x == null || x.fallen || entry <= x.folded || entry > x.done) {
            return NONE;
        }
        x.foldState = x.stateAt(entry);
        x.foldTerm = x.termAt(entry);
        x.folded = entry;
        return x.last() - entry;
    }

    boolean fall(int k) {
        Keeper x = at(k);
        if (x == null || x.fallen) {
            return false;
        }
        x.fallen = true;
        x.role = 0;
        x.done = x.folded;
        return true;
    }

    boolean rise(int k) {
        Keeper x = at(k);
        if (x == null || !x.fallen) {
            return false;
        }
        x.fallen = false;
        return true;
    }

    int read(int k, int cell) {
        Keeper x = leader(k);
        if (x == null || cell < 0 || cell > 7 || x.termAt(x.done) != x.term || reads.size() == 40) {
            return NONE;
        }
        reads.add(new int[] {k, cell, x.term, moment, x.round, doneEver});
        return reads.size() - 1;
    }

    int good(int read) {
        if (read < 0 || read >= reads.size()) {
            return GAP;
        }
        int[] r = reads.get(read);
        Keeper x = leader(r[0]);
        if (x == null || x.term != r[2]) {
            return GAP;
        }
        int heard = 0;
        for (int i = 0; i < keepers.size(); i++) {
            heard += at(i).voter && (i == r[0] || x.heard[i] > r[3]) ? 1 : 0;
        }
        return most(heard) ? x.stateAt(x.done)[r[1]] : GAP;
    }

    int drop(int slot) {
        if (!full(slot)) {
            return NONE;
        }
        int kind = post[slot].kind;
        post[slot] = null;
        return kind;
    }

    int twice(int slot) {
        return full(slot) && letters() < 40 ? put(post[slot]) : NONE;
    }

    int deliver(int slot) {
        if (!full(slot)) {
            return NONE;
        }
        Letter l = post[slot];
        post[slot] = null;
        int before = letters();
        Keeper x = at(l.to);
        if (!x.fallen) {
            if (l.term > x.term) {
                x.term = l.term;
                x.vote = NONE;
                x.role = 0;
            }
            arrive(x, l);
        }
        return letters() - before;
    }

    private void arrive(Keeper x, Letter l) {
        if (l.kind == 0) {
            int term = x.termAt(x.last());
            boolean fresh = term < l.b || term == l.b && x.last() <= l.a;
            boolean yes = x.voter && x.term == l.term && (x.vote == NONE || x.vote == l.from) && fresh;
            if (yes) {
                x.vote = l.from;
            }
            put(letter(1, l.to, l.from, yes ? 1 : 0, 0));
        } else if (l.kind == 1) {
            if (x.role == 1 && x.term == l.term && l.a == 1) {
                x.ballots |= 1 << l.from;
                chosen(x);
            }
        } else if (l.kind == 3) {
            heard(x, l);
        } else if (l.term < x.term) {
            answer(l, 0, 0);
        } else if (x.role != 2) {
            x.role = 0;
            if (l.kind == 2) {
                entries(x, l);
            } else {
                folding(x, l);
            }
        }
    }

    private void answer(Letter l, int yes, int number) {
        Letter a = letter(3, l.to, l.from, yes, number);
        a.round = l.round;
        a.moment = l.moment;
        put(a);
    }

    private void heard(Keeper x, Letter l) {
        if (x.role != 2 || x.term != l.term) {
            return;
        }
        if (l.round > x.answered[l.from]) {
            x.answered[l.from] = l.round;
        }
        if (l.moment > x.heard[l.from]) {
            x.heard[l.from] = l.moment;
        }
        if (l.a == 1) {
            if (l.b > x.sure[l.from]) {
                x.sure[l.from] = l.b;
            }
            x.next[l.from] = x.sure[l.from] + 1;
        } else {
            int next = x.next[l.from] - 1;
            if (l.b + 1 < next) {
                next = l.b + 1;
            }
            x.next[l.from] = next < 1 ? 1 : next;
        }
        settle(l.to);
    }

    private void entries(Keeper x, Letter l) {
        if (l.a > x.last() || l.a > x.folded && x.termAt(l.a) != l.b) {
            x.cut(l.a);
            int number = Math.min(x.last(), l.a - 1);
            answer(l, 0, number < 0 ? 0 : number);
            return;
        }
        int reached = l.a;
        for (Entry e : l.entries) {
            int n = reached + 1;
            if (n > x.folded) {
                if (n <= x.last() && x.termAt(n) != e.term) {
                    if (n <= x.done) {
                        throw new IllegalStateException("a done entry would be cut");
                    }
                    x.cut(n);
                }
                if (n > x.last()) {
                    if (x.last() - x.folded == 40) {
                        break;
                    }
                    x.log.add(e);
                }
            }
            reached = n;
        }
        x.done = Math.max(x.done, Math.min(l.done, reached));
        answer(l, 1, reached);
    }

    private void folding(Keeper x, Letter l) {
        if (l.a > x.done) {
            if (!(l.a <= x.last() && x.termAt(l.a) == l.b)) {
                x.log.clear();
                while (x.log.size() <= l.a) {
                    x.log.add(null);
                }
            }
            x.folded = l.a;
            x.foldTerm = l.b;
            x.foldState = l.state.clone();
            x.done = l.a;
        }
        answer(l, 1, l.a);
    }
}
