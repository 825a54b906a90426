import java.util.ArrayDeque;
import java.util.ArrayList;
import java.util.Arrays;
import java.util.Deque;
import java.util.List;
import java.util.TreeMap;

/**
 * The document once more, as plainly as can be: everything is tried out in full and copied without thrift,
 * so that a fault in BarPilot's shorter ways shows.
 */
final class Model {
    static final long UNHEARD = Long.MIN_VALUE / 4;

    static final class Fault extends RuntimeException {
        final int code;

        Fault(int place, int kind) {
            super("", null, false, false);
            code = 1 + 8 * place + kind;
        }
    }

    interface Sum {
        long of(World w, int ship, int joke);
    }

    interface Test {
        boolean of(World w, int ship, int joke);
    }

    static final class Clause {
        Sum sum;
        Test test;
    }

    // ---------------------------------------------------------------- the world

    static final class World implements Cloneable {
        int fades, like;
        List<int[]> jokes = new ArrayList<>();
        List<int[]> ships = new ArrayList<>();
        boolean[][] told = new boolean[5][8];
        boolean[][] knows = new boolean[5][8];
        long[] heard = new long[8];
        int[] passed = new int[5];
        int tide;

        World() {
            Arrays.fill(heard, UNHEARD);
            Arrays.fill(passed, -1);
        }

        World copy() {
            World w = new World();
            w.fades = fades;
            w.like = like;
            w.jokes = jokes;
            w.ships = ships;
            w.told = told;
            for (int i = 0; i < 5; i++) {
                w.knows[i] = knows[i].clone();
            }
            w.heard = heard.clone();
            w.passed = passed.clone();
            w.tide = tide;
            return w;
        }

        World atBegin() {
            World w = new World();
            w.fades = fades;
            w.like = like;
            w.jokes = jokes;
            w.ships = ships;
            w.told = told;
            for (int i = 0; i < 5; i++) {
                w.knows[i] = told[i].clone();
            }
            return w;
        }

        int alike(int a, int b) {
            int n = 0;
            for (int i = 0; i < 3; i++) {
                if (jokes.get(a)[i] == jokes.get(b)[i]) {
                    n++;
                }
            }
            return n;
        }

        boolean remembers(int joke) {
            return heard[joke] != UNHEARD && tide - heard[joke] < fades;
        }

        boolean isNew(int joke) {
            for (int r = 0; r < jokes.size(); r++) {
                if (remembers(r) && alike(joke, r) >= like) {
                    return false;
                }
            }
            return true;
        }

        boolean waits(int ship) {
            return passed[ship] == -1;
        }

        long since(int joke) {
            return heard[joke] == UNHEARD ? 99 : Math.min(99, tide - heard[joke]);
        }

        int passedCount() {
            int n = 0;
            for (int i = 0; i < ships.size(); i++) {
                n += waits(i) ? 0 : 1;
            }
            return n;
        }

        int earned() {
            int sum = 0;
            for (int i = 0; i < ships.size(); i++) {
                sum += earned(i);
            }
            return sum;
        }

        int earned(int ship) {
            return !waits(ship) && passed[ship] <= ships.get(ship)[1] ? ships.get(ship)[0] : 0;
        }

        boolean tell(int ship, int joke) {
            boolean passes = isNew(joke);
            if (passes) {
                passed[ship] = tide;
            }
            heard[joke] = tide;
            return passes;
        }

        long word(String word, int ship, int joke) {
            switch (word) {
                case "ship": return ship;
                case "joke": return joke;
                case "cargo": return ships.get(ship)[0];
                case "keeps": return ships.get(ship)[1] - tide;
                case "like": {
                    int most = 0;
                    for (int r = 0; r < jokes.size(); r++) {
                        if (remembers(r)) {
                            most = Math.max(most, alike(r, joke));
                        }
                    }
                    return most;
                }
                case "fresh": return isNew(joke) ? 1 : 0;
                case "known": {
                    int n = 0;
                    for (int s = 0; s < ships.size(); s++) {
                        n += waits(s) && knows[s][joke] ? 1 : 0;
                    }
                    return n;
                }
                case "waiting": return ships.size() - passedCount();
                case "since": return since(joke);
                case "passed": return passedCount();
                case "tide": return tide;
                default: throw new IllegalStateException(word);
            }
        }

        int choose(int ship, List<Clause> rule) {
            int best = -1;
            long most = 0;
            for (int j = 0; j < jokes.size(); j++) {
                if (!knows[ship][j]) {
                    continue;
                }
                if (rule == null) {
                    if (isNew(j)) {
                        return j;
                    }
                    continue;
                }
                long sum = 0;
                for (Clause c : rule) {
                    if (c.test == null || c.test.of(this, ship, j)) {
                        sum = c.sum.of(this, ship, j);
                        break;
                    }
                }
                if (sum > 0 && sum > most) {
                    most = sum;
                    best = j;
                }
            }
            return best;
        }

        /** What each ship told; a ship of the map tells what the map says. */
        int[] step(List<Clause> rule, int byHand, int handJoke) {
            int[] said = new int[5];
            Arrays.fill(said, -1);
            for (int s = 0; s < ships.size(); s++) {
                if (!waits(s)) {
                    continue;
                }
                int j = s == byHand ? handJoke : choose(s, rule);
                if (j >= 0) {
                    tell(s, j);
                }
                said[s] = j;
            }
            tide++;
            return said;
        }

        World after(List<Clause> rule, int n) {
            World w = copy();
            for (int i = 0; i < n; i++) {
                w.step(rule, -1, -1);
            }
            return w;
        }
    }

    // ---------------------------------------------------------------- reading

    static final class Reader {
        final byte[] t;
        int at;
        int weight;

        Reader(byte[] t) {
            this.t = t;
        }

        int peek() {
            while (at < t.length && t[at] == 32) {
                at++;
            }
            return at < t.length ? t[at] & 255 : -1;
        }

        String word() {
            peek();
            int e = at;
            while (e < t.length && t[e] >= 'a' && t[e] <= 'z') {
                e++;
            }
            return new String(t, at, e - at, java.nio.charset.StandardCharsets.ISO_8859_1);
        }

        boolean eat(String word) {
            if (word().equals(word)) {
                at += word.length();
                return true;
            }
            return false;
        }

        int number(int low, int high) {
            int c = peek();
            if (c < '0' || c > '9') {
                throw new Fault(at, 0);
            }
            int s = at;
            StringBuilder b = new StringBuilder();
            while (at < t.length && t[at] >= '0' && t[at] <= '9') {
                b.append((char) t[at++]);
            }
            if (b.length() > 5) {
                throw new Fault(s, 1);
            }
            int v = Integer.parseInt(b.toString());
            if (v < low || v > high) {
                throw new Fault(s, 1);
            }
            return v;
        }

        World bar() {
            World w = new World();
            int clauses = 0;
            while (true) {
                String k = word();
                if (!Arrays.asList("bar", "joke", "ship", "knows").contains(k)) {
                    throw new Fault(at, 0);
                }
                boolean bad = clauses == 40;
                bad |= k.equals("bar") && clauses > 0;
                bad |= !k.equals("bar") && clauses == 0;
                bad |= k.equals("joke") && w.jokes.size() == 8;
                bad |= k.equals("ship") && w.ships.size() == 5;
                if (bad) {
                    throw new Fault(at, 4);
                }
                at += k.length();
                clauses++;
                switch (k) {
                    case "bar":
                        w.fades = number(1, 60);
                        w.like = number(1, 3);
                        break;
                    case "joke": {
                        int[] j = new int[3];
                        for (int i = 0; i < 3; i++) {
                            j[i] = number(0, 9);
                        }
                        w.jokes.add(j);
                        break;
                    }
                    case "ship": {
                        int c = number(0, 99);
                        w.ships.add(new int[] {c, number(0, 60)});
                        break;
                    }
                    default: {
                        int s = number(0, w.ships.size() - 1);
                        w.told[s][number(0, w.jokes.size() - 1)] = true;
                    }
                }
                if (peek() == -1) {
                    return w.atBegin();
                }
                if (peek() != ';') {
                    throw new Fault(at, 0);
                }
                at++;
            }
        }

        List<Clause> rule() {
            List<Clause> all = new ArrayList<>();
            while (true) {
                int s = at;
                peek();
                s = at;
                if (!eat("tell")) {
                    throw new Fault(s, 0);
                }
                if (all.size() == 12) {
                    throw new Fault(s, 4);
                }
                Clause c = new Clause();
                c.sum = sum();
                if (eat("if")) {
                    c.test = test(0);
                }
                all.add(c);
                if (peek() == -1) {
                    return all;
                }
                if (peek() != ';') {
                    throw new Fault(at, 0);
                }
                at++;
            }
        }

        Test test(int deep) {
            List<Test> parts = new ArrayList<>();
            do {
                parts.add(part(deep));
            } while (eat("or"));
            return (w, s, j) -> {
                boolean any = false;
                for (Test p : parts) {
                    any |= p.of(w, s, j);
                }
                return any;
            };
        }

        Test part(int deep) {
            List<Test> facts = new ArrayList<>();
            do {
                facts.add(fact(deep));
            } while (eat("and"));
            return (w, s, j) -> {
                boolean all = true;
                for (Test f : facts) {
                    all &= f.of(w, s, j);
                }
                return all;
            };
        }

        Test fact(int deep) {
            int c = peek();
            int s = at;
            if (c == '[' || word().equals("not")) {
                if (deep == 10) {
                    throw new Fault(s, 2);
                }
                if (c == '[') {
                    at++;
                    Test t = test(deep + 1);
                    if (peek() != ']') {
                        throw new Fault(at, 0);
                    }
                    at++;
                    return t;
                }
                eat("not");
                Test t = fact(deep + 1);
                return (w, ship, j) -> !t.of(w, ship, j);
            }
            Sum l = sum();
            c = peek();
            s = at;
            String sign = c == '<' || c == '=' || c == '>' ? "" + (char) c : null;
            if (sign == null) {
                throw new Fault(s, 0);
            }
            at++;
            if (c != '=' && at < t.length && t[at] == '=') {
                sign += "=";
                at++;
            }
            weigh(s);
            Sum r = sum();
            String g = sign;
            return (w, ship, j) -> {
                int d = Long.compare(l.of(w, ship, j), r.of(w, ship, j));
                switch (g) {
                    case "<": return d < 0;
                    case "<=": return d <= 0;
                    case "=": return d == 0;
                    case ">=": return d >= 0;
                    default: return d > 0;
                }
            };
        }

        void weigh(int place) {
            if (++weight > 60) {
                throw new Fault(place, 3);
            }
        }

        Sum sum() {
            Sum l = term();
            while (peek() == '+' || peek() == '-') {
                boolean plus = t[at++] == '+';
                Sum a = l;
                Sum b = term();
                l = (w, s, j) -> plus ? a.of(w, s, j) + b.of(w, s, j) : a.of(w, s, j) - b.of(w, s, j);
            }
            return l;
        }

        Sum term() {
            Sum l = value();
            while (peek() == '*' || peek() == '/' || peek() == '%') {
                int op = t[at++];
                Sum a = l;
                Sum b = value();
                l = (w, s, j) -> {
                    long x = a.of(w, s, j);
                    long y = b.of(w, s, j);
                    if (op == '*') {
                        return x * y;
                    }
                    if (y == 0) {
                        return 0;
                    }
                    return op == '/' ? x / y : x % y;
                };
            }
            return l;
        }

        Sum value() {
            int c = peek();
            int s = at;
            if (c >= '0' && c <= '9') {
                long v = number(0, 99999);
                weigh(s);
                return (w, ship, j) -> v;
            }
            String k = word();
            if (!Arrays.asList("ship", "joke", "cargo", "keeps", "like", "fresh", "known", "waiting", "since",
                    "passed", "tide").contains(k)) {
                throw new Fault(s, 0);
            }
            at += k.length();
            weigh(s);
            return (w, ship, j) -> w.word(k, ship, j);
        }
    }

    // ---------------------------------------------------------------- the object

    static final class State {
        World world;
        int force = -1;
        int x;
        List<int[]> notes = new ArrayList<>();
        Deque<World> acts = new ArrayDeque<>();

        State copy() {
            State s = new State();
            s.world = world == null ? null : world.copy();
            s.force = force;
            s.x = x;
            s.notes = new ArrayList<>(notes);
            s.acts = new ArrayDeque<>(acts);
            return s;
        }
    }

    byte[] tape = new byte[0];
    List<List<Clause>> rules = new ArrayList<>();
    State st = new State();
    State[] images = new State[4];

    World w() {
        return st.world;
    }

    List<Clause> inForce() {
        return st.force < 0 ? null : rules.get(st.force);
    }

    boolean ship(int s) {
        return w() != null && s >= 0 && s < w().ships.size();
    }

    boolean waits(int s) {
        return ship(s) && w().waits(s);
    }

    boolean joke(int j) {
        return w() != null && j >= 0 && j < w().jokes.size();
    }

    void act() {
        st.acts.push(w().copy());
        if (st.acts.size() > 20) {
            st.acts.removeLast();
        }
    }

    static int bits(boolean[] b) {
        int n = 0;
        for (int i = 0; i < b.length; i++) {
            n |= b[i] ? 1 << i : 0;
        }
        return n;
    }

    int feed(int... five) {
        if (tape.length + 20 > 400) {
            return -1;
        }
        int at = tape.length;
        tape = Arrays.copyOf(tape, at + 20);
        for (int v : five) {
            for (int i = 3; i >= 0; i--) {
                tape[at++] = (byte) (v >>> 8 * i);
            }
        }
        return tape.length;
    }

    int end(int n) {
        if (n < 0 || n > tape.length) {
            return -1;
        }
        tape = Arrays.copyOf(tape, n);
        return n;
    }

    int bar() {
        byte[] t = tape;
        tape = new byte[0];
        try {
            World w = new Reader(t).bar();
            st.world = w;
            st.notes.clear();
            st.acts.clear();
            return w.ships.size();
        } catch (Fault f) {
            return -2 - f.code;
        }
    }

    int rule() {
        if (rules.size() == 6) {
            return -1;
        }
        byte[] t = tape;
        tape = new byte[0];
        try {
            rules.add(new Reader(t).rule());
            return rules.size() - 1;
        } catch (Fault f) {
            return -2 - f.code;
        }
    }

    int force(int r) {
        if (r < -1 || r >= rules.size()) {
            return -2;
        }
        int was = st.force;
        st.force = r;
        return was;
    }

    int joke(int j, int what) {
        if (!joke(j) || what < 0 || what > 5) {
            return -1;
        }
        if (what < 3) {
            return w().jokes.get(j)[what];
        }
        if (what == 3) {
            return w().remembers(j) ? 1 : 0;
        }
        return what == 4 ? (w().isNew(j) ? 1 : 0) : (int) w().since(j);
    }

    int ship(int s, int what) {
        if (!ship(s) || what < 0 || what > 3) {
            return -2;
        }
        if (what < 2) {
            return w().ships.get(s)[what];
        }
        return what == 2 ? bits(w().knows[s]) : w().passed[s];
    }

    int tide() {
        if (w() == null || w().tide == 999) {
            return -1;
        }
        act();
        boolean[] before = new boolean[5];
        for (int i = 0; i < w().ships.size(); i++) {
            before[i] = w().waits(i);
        }
        w().step(inForce(), -1, -1);
        for (int i = 0; i < w().ships.size(); i++) {
            before[i] &= !w().waits(i);
        }
        return bits(before);
    }

    int say(int s, int j) {
        if (!waits(s) || !joke(j) || !w().knows[s][j]) {
            return -1;
        }
        act();
        return w().tell(s, j) ? 1 : 0;
    }

    int trade(int a, int b) {
        if (!waits(a) || !waits(b) || a == b || Arrays.equals(w().knows[a], w().knows[b])) {
            return -1;
        }
        act();
        share(w(), a, b);
        return bits(w().knows[a]);
    }

    static void share(World w, int a, int b) {
        for (int j = 0; j < 8; j++) {
            boolean k = w.knows[a][j] || w.knows[b][j];
            w.knows[a][j] = k;
            w.knows[b][j] = k;
        }
    }

    int coin(int s, int j) {
        if (!waits(s) || !joke(j) || w().knows[s][j]) {
            return -1;
        }
        act();
        w().knows[s][j] = true;
        return bits(w().knows[s]);
    }

    int dull(int j) {
        if (!joke(j) || !w().remembers(j)) {
            return -1;
        }
        act();
        int ago = (int) (w().tide - w().heard[j]);
        w().heard[j] = UNHEARD;
        return ago;
    }

    int undo() {
        if (st.acts.isEmpty()) {
            return -2;
        }
        // A copy: images may hold the same one.
        st.world = st.acts.pop().copy();
        return st.acts.size();
    }

    int ahead(int s, int n, int what) {
        if (w() == null || n < 0 || n > 100 || what < 0 || what > 2 || what == 0 && !ship(s)) {
            return -2;
        }
        World f = w().after(inForce(), n);
        return what == 0 ? f.passed[s] : what == 1 ? f.earned() : f.passedCount();
    }

    int over(int s, int what) {
        if (!waits(s) || what < 0 || what > 1) {
            return -1;
        }
        World f = w().copy();
        for (int i = 0; i < 100; i++) {
            int[] said = f.step(inForce(), -1, -1);
            if (!f.waits(s)) {
                return what == 0 ? f.passed[s] : said[s];
            }
        }
        return -2;
    }

    int alike(int a, int b) {
        return joke(a) && joke(b) ? w().alike(a, b) : -1;
    }

    int fresh() {
        if (w() == null) {
            return -1;
        }
        int n = 0;
        for (int j = 0; j < w().jokes.size(); j++) {
            n |= w().isNew(j) ? 1 << j : 0;
        }
        return n;
    }

    int least() {
        if (w() == null) {
            return -1;
        }
        for (int v = 0; v < 1000; v++) {
            String d = String.format("%03d", v);
            boolean ok = true;
            for (int[] j : w().jokes) {
                int n = 0;
                for (int i = 0; i < 3; i++) {
                    n += d.charAt(i) - '0' == j[i] ? 1 : 0;
                }
                ok &= n < w().like;
            }
            if (ok) {
                return v;
            }
        }
        return -2;
    }

    int row(int s, int n, int what) {
        if (!waits(s) || n < 1 || n > 4 || what < 0 || what > 4) {
            return -3;
        }
        if (what > n) {
            return -2;
        }
        int[] bestRow = null;
        int best = Integer.MAX_VALUE;
        int[] row = new int[n];
        Arrays.fill(row, -1);
        while (true) {
            int at = rowPasses(s, row);
            if (at >= 0 && at < best) {
                best = at;
                bestRow = row.clone();
            }
            int i = n - 1;
            while (i >= 0 && row[i] == w().jokes.size() - 1) {
                row[i--] = -1;
            }
            if (i < 0) {
                break;
            }
            row[i]++;
        }
        if (bestRow == null) {
            return -2;
        }
        return what == 0 ? best : bestRow[what - 1];
    }

    /** The tide on which the ship passes by a row that it can tell, or -1. */
    int rowPasses(int s, int[] row) {
        World f = w().copy();
        for (int j : row) {
            if (j >= 0 && (!f.knows[s][j] || !f.waits(s))) {
                return -1;
            }
            f.step(inForce(), s, j);
        }
        return f.passed[s];
    }

    int forget(int n, int what) {
        if (w() == null || n < 1 || n > 60 || what < 0 || what > 1) {
            return -2;
        }
        int which = -1;
        int most = w().after(inForce(), n).earned();
        for (int j = 0; j < w().jokes.size(); j++) {
            if (w().remembers(j)) {
                World f = w().copy();
                f.heard[j] = UNHEARD;
                int e = f.after(inForce(), n).earned();
                if (e > most) {
                    most = e;
                    which = j;
                }
            }
        }
        return what == 0 ? which : most;
    }

    int barter(int n, int what) {
        if (w() == null || n < 1 || n > 60 || what < 0 || what > 2) {
            return -2;
        }
        int[] who = {-1, -1, w().after(inForce(), n).earned()};
        for (int a = 0; a < w().ships.size(); a++) {
            for (int b = 0; b < w().ships.size(); b++) {
                if (a != b && waits(a) && waits(b)) {
                    World f = w().copy();
                    share(f, a, b);
                    int e = f.after(inForce(), n).earned();
                    if (e > who[2]) {
                        who = new int[] {a, b, e};
                    }
                }
            }
        }
        return who[what];
    }

    int school(int n, int what) {
        if (w() == null || n < 1 || n > 60 || what < 0 || what > 1) {
            return -1;
        }
        int best = -1;
        for (int set = 0; set < 1 << w().jokes.size(); set++) {
            World f = w().copy();
            for (int s = 0; s < f.ships.size(); s++) {
                for (int j = 0; j < 8; j++) {
                    if (f.waits(s) && (set >> j & 1) == 1) {
                        f.knows[s][j] = true;
                    }
                }
            }
            if (f.after(inForce(), n).passedCount() == f.ships.size()
                    && (best < 0 || Integer.bitCount(set) < Integer.bitCount(best))) {
                best = set;
            }
        }
        if (best < 0) {
            return -2;
        }
        return what == 0 ? Integer.bitCount(best) : best;
    }

    int old(int r, int n, int many, int what) {
        if (w() == null || r < -1 || r >= rules.size() || n < 1 || n > 60 || many < 0 || many > 5
                || what < 0 || what > 2) {
            return -3;
        }
        int count = 0;
        int least = -2;
        int all = 255;
        for (int set = 0; set < 1 << w().jokes.size(); set++) {
            World f = w().atBegin();
            for (int j = 0; j < 8; j++) {
                if ((set >> j & 1) == 1) {
                    f.heard[j] = -1;
                }
            }
            if (f.after(r < 0 ? null : rules.get(r), n).passedCount() == many) {
                count++;
                least = least == -2 ? set : least;
                all &= set;
            }
        }
        return what == 0 ? count : what == 1 ? least : count == 0 ? 0 : all;
    }

    int game(int a, int b, int n, int what) {
        if (!waits(a) || !waits(b) || a == b || n < 1 || n > 3 || what < 0 || what > 1) {
            return -1000;
        }
        int best = Integer.MIN_VALUE;
        int first = -1;
        for (int j = -1; j < w().jokes.size(); j++) {
            if (j < 0 || w().knows[a][j]) {
                World f = w().copy();
                if (j >= 0) {
                    f.tell(a, j);
                }
                f.tide++;
                int v = play(f, a, b, 1, n);
                if (v > best) {
                    best = v;
                    first = j;
                }
            }
        }
        return what == 0 ? best : first;
    }

    int play(World f, int a, int b, int turn, int n) {
        if (turn == n) {
            return f.earned(a) - f.earned(b);
        }
        int mover = turn % 2 == 0 ? a : b;
        List<Integer> results = new ArrayList<>();
        for (int j = -1; j < f.jokes.size(); j++) {
            if (j < 0 || f.waits(mover) && f.knows[mover][j]) {
                World g = f.copy();
                if (j >= 0) {
                    g.tell(mover, j);
                }
                g.tide++;
                results.add(play(g, a, b, turn + 1, n));
            }
        }
        return mover == a ? java.util.Collections.max(results) : java.util.Collections.min(results);
    }

    int parts(int purse, int s) {
        if (!ship(s) || purse < 0 || purse > 9999) {
            return -1;
        }
        long all = 0;
        int n = w().ships.size();
        long[] weight = new long[n];
        for (int i = 0; i < n; i++) {
            weight[i] = w().waits(i) ? 0 : w().ships.get(i)[0];
            all += weight[i];
        }
        if (all == 0) {
            return 0;
        }
        long[] part = new long[n];
        long left = purse;
        List<Integer> by = new ArrayList<>();
        long sum = all;
        for (int i = 0; i < n; i++) {
            part[i] = purse * weight[i] / sum;
            left -= part[i];
            by.add(i);
        }
        by.sort((p, q) -> Long.compare(purse * weight[q] % sum, purse * weight[p] % sum));
        for (int i = 0; i < left; i++) {
            part[by.get(i)]++;
        }
        return (int) part[s];
    }

    int order(int s) {
        if (!ship(s)) {
            return -1;
        }
        World f = w().after(inForce(), 100);
        List<Integer> by = new ArrayList<>();
        for (int i = 0; i < f.ships.size(); i++) {
            by.add(i);
        }
        by.sort((p, q) -> Integer.compare(f.waits(p) ? 99999 : f.passed[p], f.waits(q) ? 99999 : f.passed[q]));
        return by.indexOf(s);
    }

    int note(int n, int s, int j) {
        if (n == -1) {
            st.notes.clear();
            return 0;
        }
        if (n < 0 || n > 60 || !ship(s) || j != -1 && !joke(j) || st.notes.size() == 10) {
            return -2;
        }
        st.notes.add(new int[] {n, s, j});
        return st.notes.size();
    }

    /** By the candidate (-1: none) what all ships told on tides 0 to 60, or null if a note is not so. */
    int[][] candidate(int r) {
        World f = w().atBegin();
        int[][] said = new int[61][];
        for (int i = 0; i <= 60; i++) {
            said[i] = f.step(r < 0 ? null : rules.get(r), -1, -1);
        }
        for (int[] n : st.notes) {
            if (said[n[0]][n[1]] != n[2]) {
                return null;
            }
        }
        return said;
    }

    int ruled(int what) {
        if (w() == null || what < 0 || what > 1) {
            return -3;
        }
        List<Integer> so = new ArrayList<>();
        for (int r = -1; r < rules.size(); r++) {
            if (candidate(r) != null) {
                so.add(r);
            }
        }
        return what == 0 ? so.size() : so.isEmpty() ? -2 : so.get(0);
    }

    int look(int n, int what) {
        if (w() == null || n < 0 || n > 60 || what < 0 || what > 1) {
            return -1;
        }
        int best = -2;
        int fewest = -2;
        for (int s = 0; s < w().ships.size(); s++) {
            TreeMap<Integer, Integer> groups = new TreeMap<>();
            for (int r = -1; r < rules.size(); r++) {
                int[][] said = candidate(r);
                if (said != null) {
                    groups.merge(said[n][s], 1, Integer::sum);
                }
            }
            if (groups.isEmpty()) {
                return -2;
            }
            int most = java.util.Collections.max(groups.values());
            if (best < 0 || most < fewest) {
                best = s;
                fewest = most;
            }
        }
        return what == 0 ? best : fewest;
    }

    int seed(int x) {
        if (x < 0) {
            return -1;
        }
        int was = st.x;
        st.x = x;
        return was;
    }

    int parrots(int m, int n, int p, int what) {
        if (w() == null || m < 1 || m > 10 || n < 1 || n > 60 || p < 0 || p > 100 || what < 0 || what > 1) {
            return -1;
        }
        long x = st.x;
        int earned = 0;
        int passed = 0;
        for (int i = 0; i < m; i++) {
            World f = w().copy();
            for (int t = 0; t < n; t++) {
                x = (x * 1103515245L + 12345L) % 2147483648L;
                if (x / 65536 % 100 < p && !f.jokes.isEmpty()) {
                    x = (x * 1103515245L + 12345L) % 2147483648L;
                    f.heard[(int) (x / 65536 % f.jokes.size())] = f.tide;
                }
                f.step(inForce(), -1, -1);
            }
            earned += f.earned() - w().earned();
            passed += f.passedCount();
        }
        return what == 0 ? earned : passed;
    }

    int count(int what) {
        World w = w() == null ? new World() : w();
        int n = 0;
        switch (what) {
            case 0: return w.fades;
            case 1: return w.like;
            case 2: return w.jokes.size();
            case 3: return w.ships.size();
            case 4: return rules.size();
            case 5: return st.force;
            case 6: return w.tide;
            case 7: return w.earned();
            case 8:
                for (int i = 0; i < w.ships.size(); i++) {
                    n |= w.waits(i) ? 1 << i : 0;
                }
                return n;
            case 9:
                for (int i = 0; i < w.jokes.size(); i++) {
                    n |= w.remembers(i) ? 1 << i : 0;
                }
                return n;
            case 10: return st.notes.size();
            case 11: return st.acts.size();
            case 12: return st.x;
            case 13: return tape.length;
            default: return -1;
        }
    }

    int image(int k) {
        if (k < 0 || k > 3) {
            return -1;
        }
        images[k] = st.copy();
        return count(6);
    }

    int back(int k) {
        if (k < 0 || k > 3 || images[k] == null) {
            return -1;
        }
        st = images[k].copy();
        return count(6);
    }
}
