import java.util.ArrayList;
import java.util.Arrays;
import java.util.List;
import java.util.TreeMap;
import java.util.TreeSet;
import java.util.function.ToIntFunction;

/**
 * The document once more, as plainly as can be and without regard for room or time: tree-walking
 * rules, whole copies of the state, every row tried. FuzzTest holds FoxReply against it.
 */
final class PlainFox {
    static final class Fault extends RuntimeException {
        private static final long serialVersionUID = 1L;
        final int code;

        Fault(int place, int kind) {
            super(null, null, false, false);
            code = 1 + 8 * place + kind;
        }
    }

    static final class Horse {
        int run;
        int pace;
        int ground;
        int was;

        Horse(int run, int pace) {
            this.run = run;
            this.pace = pace;
        }

        Horse copy() {
            Horse h = new Horse(run, pace);
            h.ground = ground;
            h.was = was;
            return h;
        }
    }

    static final class State {
        boolean hunted;
        int round;
        int foxPace;
        int law;
        int fox;
        int step;
        TreeSet<Integer> gates = new TreeSet<>();
        List<Horse> horses = new ArrayList<>();

        State copy() {
            State s = new State();
            s.hunted = hunted;
            s.round = round;
            s.foxPace = foxPace;
            s.law = law;
            s.fox = fox;
            s.step = step;
            s.gates.addAll(gates);
            for (Horse h : horses) {
                s.horses.add(h.copy());
            }
            return s;
        }

        boolean has(int rider) {
            return rider >= 0 && rider < horses.size();
        }

        int gateDistance() {
            for (int d = 1; d <= round; d++) {
                if (gates.contains((fox + d) % round)) {
                    return d;
                }
            }
            return 99;
        }

        int lastOne() {
            int best = -1;
            for (int i = horses.size() - 1; i >= 0; i--) {
                Horse h = horses.get(i);
                if (h.ground == 0 && (best == -1 || h.run < horses.get(best).run)) {
                    best = i;
                }
            }
            return best;
        }
    }

    interface Num {
        long of(State s, int rider);
    }

    interface Yes {
        boolean of(State s, int rider);
    }

    record Clause(Num sum, Yes test) {}

    // ---- reading

    static final class Reader {
        final String text;
        int at;
        int parts;

        Reader(String text) {
            this.text = text;
        }

        void blanks() {
            while (at < text.length() && text.charAt(at) == ' ') {
                at++;
            }
        }

        char peek() {
            blanks();
            return at < text.length() ? text.charAt(at) : '\uffff';
        }

        Fault bad() {
            blanks();
            return new Fault(at, 0);
        }

        String peekWord() {
            blanks();
            int e = at;
            while (e < text.length() && text.charAt(e) >= 'a' && text.charAt(e) <= 'z') {
                e++;
            }
            return text.substring(at, e);
        }

        boolean takes(String word) {
            if (peekWord().equals(word)) {
                at += word.length();
                return true;
            }
            return false;
        }

        boolean takes(char c) {
            if (peek() == c) {
                at++;
                return true;
            }
            return false;
        }

        int number(int lo, int hi) {
            char c = peek();
            if (c < '0' || c > '9') {
                throw bad();
            }
            int place = at;
            StringBuilder digits = new StringBuilder();
            while (at < text.length() && text.charAt(at) >= '0' && text.charAt(at) <= '9') {
                digits.append(text.charAt(at++));
            }
            if (digits.length() > 5) {
                throw new Fault(place, 1);
            }
            int v = Integer.parseInt(digits.toString());
            if (v < lo || v > hi) {
                throw new Fault(place, 1);
            }
            return v;
        }

        State hunt() {
            State s = new State();
            s.hunted = true;
            s.fox = 100;
            int clauses = 0;
            do {
                String w = peekWord();
                if (!w.equals("fox") && !w.equals("rider") && !w.equals("gate")) {
                    throw bad();
                }
                clauses++;
                if (clauses > 40 || w.equals("fox") && clauses > 1 || !w.equals("fox") && clauses == 1
                        || w.equals("rider") && s.horses.size() == 6) {
                    throw new Fault(at, 4);
                }
                at += w.length();
                if (w.equals("fox")) {
                    s.round = number(2, 60);
                    s.foxPace = number(1, 9);
                    s.law = number(0, 9);
                } else if (w.equals("rider")) {
                    int start = number(0, 99);
                    s.horses.add(new Horse(100 - start, number(1, 9)));
                } else {
                    s.gates.add(number(0, s.round - 1));
                }
            } while (takes(';'));
            blanks();
            if (at != text.length()) {
                throw bad();
            }
            return s;
        }

        List<Clause> rule() {
            List<Clause> out = new ArrayList<>();
            do {
                if (!peekWord().equals("ride")) {
                    throw bad();
                }
                if (out.size() == 12) {
                    throw new Fault(at, 4);
                }
                at += 4;
                Num sum = sum();
                Yes test = takes("if") ? test(0) : null;
                out.add(new Clause(sum, test));
            } while (takes(';'));
            blanks();
            if (at != text.length()) {
                throw bad();
            }
            return out;
        }

        Yes test(int deep) {
            Yes a = part(deep);
            while (takes("or")) {
                Yes l = a;
                Yes r = part(deep);
                a = (s, i) -> l.of(s, i) || r.of(s, i);
            }
            return a;
        }

        Yes part(int deep) {
            Yes a = fact(deep);
            while (takes("and")) {
                Yes l = a;
                Yes r = fact(deep);
                a = (s, i) -> l.of(s, i) && r.of(s, i);
            }
            return a;
        }

        Yes fact(int deep) {
            if (peekWord().equals("not")) {
                if (deep == 10) {
                    throw new Fault(at, 2);
                }
                at += 3;
                Yes f = fact(deep + 1);
                return (s, i) -> !f.of(s, i);
            }
            if (peek() == '[') {
                if (deep == 10) {
                    throw new Fault(at, 2);
                }
                at++;
                Yes f = test(deep + 1);
                if (!takes(']')) {
                    throw bad();
                }
                return f;
            }
            Num l = sum();
            char c = peek();
            if (c != '<' && c != '=' && c != '>') {
                throw bad();
            }
            if (++parts > 60) {
                throw new Fault(at, 3);
            }
            at++;
            boolean like = c != '=' && at < text.length() && text.charAt(at) == '=';
            if (like) {
                at++;
            }
            Num r = sum();
            if (c == '=') {
                return (s, i) -> l.of(s, i) == r.of(s, i);
            }
            if (c == '<') {
                return like ? (s, i) -> l.of(s, i) <= r.of(s, i) : (s, i) -> l.of(s, i) < r.of(s, i);
            }
            return like ? (s, i) -> l.of(s, i) >= r.of(s, i) : (s, i) -> l.of(s, i) > r.of(s, i);
        }

        Num sum() {
            Num a = term();
            while (true) {
                Num l = a;
                if (takes('+')) {
                    Num r = term();
                    a = (s, i) -> l.of(s, i) + r.of(s, i);
                } else if (takes('-')) {
                    Num r = term();
                    a = (s, i) -> l.of(s, i) - r.of(s, i);
                } else {
                    return a;
                }
            }
        }

        Num term() {
            Num a = value();
            while (true) {
                Num l = a;
                if (takes('*')) {
                    Num r = value();
                    a = (s, i) -> l.of(s, i) * r.of(s, i);
                } else if (takes('/')) {
                    Num r = value();
                    a = (s, i) -> r.of(s, i) == 0 ? 0 : l.of(s, i) / r.of(s, i);
                } else if (takes('%')) {
                    Num r = value();
                    a = (s, i) -> r.of(s, i) == 0 ? 0 : l.of(s, i) % r.of(s, i);
                } else {
                    return a;
                }
            }
        }

        Num value() {
            char c = peek();
            int place = at;
            Num out;
            if (c >= '0' && c <= '9') {
                int v = number(0, 99999);
                out = (s, i) -> v;
            } else {
                String w = peekWord();
                out = word(w);
                if (out == null) {
                    throw bad();
                }
                at += w.length();
            }
            if (++parts > 60) {
                throw new Fault(place, 3);
            }
            return out;
        }

        static Num word(String w) {
            switch (w) {
                case "rider": return (s, i) -> i;
                case "pace": return (s, i) -> s.horses.get(i).pace;
                case "gap": return (s, i) -> s.fox - s.horses.get(i).run;
                case "behind": return (s, i) -> s.horses.stream()
                        .filter(h -> h.ground == 0 && h.run < s.horses.get(i).run).count();
                case "level": return (s, i) -> s.horses.stream()
                        .filter(h -> h.ground == 0 && h.run == s.horses.get(i).run).count() - 1;
                case "out": return (s, i) -> s.horses.stream().filter(h -> h.ground > 0).count();
                case "was": return (s, i) -> s.horses.get(i).was;
                case "gate": return (s, i) -> s.gateDistance();
                case "foxpace": return (s, i) -> s.foxPace;
                case "law": return (s, i) -> s.law;
                case "step": return (s, i) -> s.step;
                default: return null;
            }
        }
    }

    // ---- a STEP

    static int go(State s, List<Clause> rule, int rowRider, int rowFields) {
        int[] rides = new int[s.horses.size()];
        for (int i = 0; i < rides.length; i++) {
            Horse h = s.horses.get(i);
            if (h.ground > 0) {
                continue;
            }
            long wish = h.pace;
            if (i == rowRider) {
                wish = rowFields;
            } else if (rule != null) {
                wish = 0;
                for (Clause c : rule) {
                    if (c.test == null || c.test.of(s, i)) {
                        wish = c.sum.of(s, i);
                        break;
                    }
                }
                wish = Math.max(0, Math.min(h.pace, wish));
            }
            rides[i] = (int) wish;
        }
        for (int i = 0; i < rides.length; i++) {
            Horse h = s.horses.get(i);
            h.run = Math.min(h.run + rides[i], s.fox);
            if (h.ground > 0) {
                h.ground--;
            }
        }
        int who = -1;
        for (int d = 1; d <= s.foxPace; d++) {
            s.fox++;
            if (s.gates.contains(s.fox % s.round)) {
                who = s.lastOne();
                if (who >= 0) {
                    s.horses.get(who).ground = s.law;
                    s.horses.get(who).was++;
                }
                break;
            }
        }
        s.step++;
        return who;
    }

    // ---- the object

    StringBuilder tape = new StringBuilder();
    State begun = new State();
    State now = new State();
    List<List<Clause>> rules = new ArrayList<>();
    int force = -1;
    int x;
    List<int[]> notes = new ArrayList<>();
    List<State> acts = new ArrayList<>();
    Object[][] images = new Object[4][];

    List<Clause> ruleIn(int k) {
        return k < 0 ? null : rules.get(k);
    }

    int go(State s) {
        return go(s, ruleIn(force), -1, 0);
    }

    /** Times IT of each RIDER in n STEPS of s. */
    int[] times(State s, int n) {
        int[] out = new int[6];
        for (int i = 0; i < n; i++) {
            int w = go(s);
            if (w >= 0) {
                out[w]++;
            }
        }
        return out;
    }

    static boolean in(int v, int lo, int hi) {
        return v >= lo && v <= hi;
    }

    int feed(int a, int b, int c, int d, int e) {
        if (tape.length() + 20 > 400) {
            return -1;
        }
        for (int v : new int[] {a, b, c, d, e}) {
            for (int k = 3; k >= 0; k--) {
                tape.append((char) (v >> 8 * k & 255));
            }
        }
        return tape.length();
    }

    int end(int n) {
        if (n < 0 || n > tape.length()) {
            return -1;
        }
        tape.setLength(n);
        return n;
    }

    int hunt() {
        String text = tape.toString();
        tape.setLength(0);
        try {
            State s = new Reader(text).hunt();
            begun = s;
            now = s.copy();
            notes.clear();
            acts.clear();
            return s.horses.size();
        } catch (Fault f) {
            return -2 - f.code;
        }
    }

    int rule() {
        if (rules.size() == 6) {
            return -1;
        }
        String text = tape.toString();
        tape.setLength(0);
        try {
            rules.add(new Reader(text).rule());
            return rules.size() - 1;
        } catch (Fault f) {
            return -2 - f.code;
        }
    }

    int force(int rule) {
        if (!in(rule, -1, rules.size() - 1)) {
            return -2;
        }
        int was = force;
        force = rule;
        return was;
    }

    int rider(int r, int what) {
        if (!now.has(r) || !in(what, 0, 3)) {
            return -1;
        }
        Horse h = now.horses.get(r);
        return new int[] {h.run, h.pace, h.ground, h.was}[what];
    }

    int gateAt(int f) {
        return in(f, 0, now.round - 1) ? now.gates.contains(f) ? 1 : 0 : -1;
    }

    void act() {
        acts.add(now.copy());
        if (acts.size() > 20) {
            acts.remove(0);
        }
    }

    int step() {
        if (!now.hunted || now.step == 999) {
            return -2;
        }
        act();
        return go(now);
    }

    int spur(int r, int pace) {
        if (!now.has(r) || !in(pace, 1, 9) || now.horses.get(r).pace == pace) {
            return -1;
        }
        act();
        int was = now.horses.get(r).pace;
        now.horses.get(r).pace = pace;
        return was;
    }

    int hold(int r, int fields) {
        if (!now.has(r) || !in(fields, 1, 9) || now.horses.get(r).ground > 0
                || now.horses.get(r).run < fields) {
            return -1;
        }
        act();
        return now.horses.get(r).run -= fields;
    }

    int dig(int r) {
        if (!now.has(r) || now.horses.get(r).ground == 0) {
            return -1;
        }
        act();
        int g = now.horses.get(r).ground;
        now.horses.get(r).ground = 0;
        return g;
    }

    int gate(int f) {
        if (!in(f, 0, now.round - 1)) {
            return -1;
        }
        act();
        if (now.gates.remove(f)) {
            return 0;
        }
        now.gates.add(f);
        return 1;
    }

    int undo() {
        if (acts.isEmpty()) {
            return -1;
        }
        now = acts.remove(acts.size() - 1);
        return acts.size();
    }

    int last() {
        return now.hunted ? now.lastOne() : -2;
    }

    int ahead(int r, int n, int what) {
        if (!now.hunted || !in(n, 0, 100) || !in(what, 0, 2) || what > 0 && !now.has(r)) {
            return -1;
        }
        State s = now.copy();
        times(s, n);
        return what == 0 ? s.fox : what == 1 ? s.horses.get(r).run : s.horses.get(r).was;
    }

    int it(int r) {
        if (!now.has(r)) {
            return -1;
        }
        State s = now.copy();
        for (int i = 0; i < 200; i++) {
            int number = s.step;
            if (go(s) == r) {
                return number;
            }
        }
        return -2;
    }

    int leastPace(int r, int n) {
        if (!now.has(r) || !in(n, 1, 60)) {
            return -1;
        }
        for (int p = 1; p <= 9; p++) {
            State s = now.copy();
            s.horses.get(r).pace = p;
            if (times(s, n)[r] == 0) {
                return p;
            }
        }
        return -2;
    }

    int row(int r, int n, int what) {
        if (!now.has(r) || !in(n, 1, 4) || !in(what, 0, 2)) {
            return -1;
        }
        int pace = now.horses.get(r).pace;
        int rows = 1;
        for (int i = 0; i < n; i++) {
            rows *= pace + 1;
        }
        int[] best = null;
        for (int k = 0; k < rows; k++) {
            int[] row = new int[n];
            for (int i = n - 1, rest = k; i >= 0; i--, rest /= pace + 1) {
                row[i] = rest % (pace + 1);
            }
            State s = now.copy();
            int often = 0;
            for (int i = 0; i < n; i++) {
                if (go(s, ruleIn(force), r, row[i]) == r) {
                    often++;
                }
            }
            int far = s.horses.get(r).run;
            if (best == null || often < best[0] || often == best[0] && far < best[1]) {
                best = new int[] {often, far, row[0]};
            }
        }
        return best[what];
    }

    int shut(int n, int what) {
        if (!now.hunted || !in(n, 1, 60) || !in(what, 0, 1)) {
            return -2;
        }
        int best = -1;
        int least = Arrays.stream(times(now.copy(), n)).sum();
        for (int f : now.gates) {
            State s = now.copy();
            s.gates.remove(f);
            int t = Arrays.stream(times(s, n)).sum();
            if (t < least) {
                least = t;
                best = f;
            }
        }
        return what == 0 ? best : least;
    }

    int help(int n, int what) {
        if (!now.hunted || !in(n, 1, 60) || !in(what, 0, 1)) {
            return -1;
        }
        int best = -1;
        for (int set = 0; set < 1 << now.horses.size(); set++) {
            State s = now.copy();
            for (int i = 0; i < s.horses.size(); i++) {
                if ((set & 1 << i) != 0) {
                    s.horses.get(i).pace = 9;
                }
            }
            boolean good = Arrays.stream(times(s, n)).max().getAsInt() < 2;
            if (good && (best == -1 || Integer.bitCount(set) < Integer.bitCount(best))) {
                best = set;
            }
        }
        return best == -1 ? -2 : what == 0 ? Integer.bitCount(best) : best;
    }

    int allIt() {
        if (!now.hunted) {
            return -1;
        }
        State s = now.copy();
        for (int i = 0; i <= 200; i++) {
            if (s.horses.stream().allMatch(h -> h.was > 0)) {
                return now.step + i - 1;
            }
            go(s);
        }
        return -2;
    }

    int meet(int a, int b) {
        if (!now.has(a) || !now.has(b) || a == b) {
            return -1;
        }
        State s = now.copy();
        for (int i = 0; i < 200; i++) {
            if (s.horses.get(a).run == s.horses.get(b).run) {
                return s.step;
            }
            go(s);
        }
        return -2;
    }

    int bunches(int what) {
        if (!now.hunted || !in(what, 0, 1)) {
            return -1;
        }
        TreeMap<Integer, Integer> at = new TreeMap<>();
        for (int i = 0; i < now.horses.size(); i++) {
            Horse h = now.horses.get(i);
            if (h.ground == 0) {
                at.merge(h.run, 1 << i, (p, q) -> p | q);
            }
        }
        List<Integer> bunches = new ArrayList<>();
        int before = -1000;
        for (int run : at.keySet()) {
            if (run - before <= 2) {
                bunches.set(bunches.size() - 1, bunches.get(bunches.size() - 1) | at.get(run));
            } else {
                bunches.add(at.get(run));
            }
            before = run;
        }
        int largest = 0;
        for (int b : bunches) {
            if (Integer.bitCount(b) >= Integer.bitCount(largest)) {
                largest = b;
            }
        }
        return what == 0 ? bunches.size() : largest;
    }

    int pence(int much, int r) {
        if (!now.has(r) || !in(much, 0, 9999)) {
            return -1;
        }
        int n = now.horses.size();
        int all = now.horses.stream().mapToInt(h -> h.was).sum();
        if (all == 0) {
            return 0;
        }
        int[] part = new int[n];
        int[] lost = new int[n];
        int left = much;
        for (int i = 0; i < n; i++) {
            part[i] = much * now.horses.get(i).was / all;
            lost[i] = much * now.horses.get(i).was - part[i] * all;
            left -= part[i];
        }
        while (left-- > 0) {
            int top = 0;
            for (int i = 1; i < n; i++) {
                if (lost[i] > lost[top]) {
                    top = i;
                }
            }
            part[top]++;
            lost[top] = -1;
        }
        return part[r];
    }

    int rests(int a, int b, int n, int what) {
        if (!now.has(a) || !now.has(b) || a == b || !in(n, 1, 20) || !in(what, 0, 2)) {
            return -1;
        }
        int[][][] gain = new int[10][10][];
        for (int p = 1; p < 10; p += 2) {
            for (int q = 1; q < 10; q += 2) {
                State s = now.copy();
                s.horses.get(a).pace = p;
                s.horses.get(b).pace = q;
                int[] t = times(s, n);
                gain[p][q] = new int[] {-5 * t[a] - p / 2, -5 * t[b] - q / 2};
            }
        }
        int many = 0;
        int[] first = {0, -2, -2};
        for (int p = 1; p < 10; p += 2) {
            for (int q = 1; q < 10; q += 2) {
                boolean rest = true;
                for (int o = 1; o < 10; o += 2) {
                    rest &= gain[o][q][0] <= gain[p][q][0] && gain[p][o][1] <= gain[p][q][1];
                }
                if (rest && many++ == 0) {
                    first = new int[] {0, p, q};
                }
            }
        }
        return what == 0 ? many : first[what];
    }

    int open(int r, int n, int what) {
        if (!now.has(r) || !in(n, 1, 60) || !in(what, 0, 1)) {
            return -2;
        }
        int best = -1;
        int most = times(now.copy(), n)[r];
        for (int f = 0; f < now.round; f++) {
            State s = now.copy();
            s.gates.add(f);
            int t = times(s, n)[r];
            if (t > most) {
                most = t;
                best = f;
            }
        }
        return what == 0 ? best : most;
    }

    int close(int n, int what) {
        if (!now.hunted || !in(n, 1, 100) || !in(what, 0, 2)) {
            return -1;
        }
        int[] best = {99999, -2, -2};
        State s = now.copy();
        for (int i = 0; i <= n; i++) {
            for (int r = 0; r < s.horses.size(); r++) {
                Horse h = s.horses.get(r);
                if (h.ground == 0 && s.fox - h.run < best[0]) {
                    best = new int[] {s.fox - h.run, r, s.step};
                }
            }
            go(s);
        }
        return best[what];
    }

    int note(int n, int r, int far) {
        if (n == -1) {
            notes.clear();
            return 0;
        }
        if (!in(n, 0, 60) || !now.has(r) || !in(far, 0, 9999) || notes.size() == 10) {
            return -2;
        }
        notes.add(new int[] {n, r, far});
        return notes.size();
    }

    /** How far all have run at the begin of STEP n by a RULE. */
    int[] runsAt(int n, int rule) {
        State s = begun.copy();
        for (int i = 0; i < n; i++) {
            go(s, ruleIn(rule), -1, 0);
        }
        return s.horses.stream().mapToInt(h -> h.run).toArray();
    }

    List<Integer> so() {
        List<Integer> out = new ArrayList<>();
        for (int k = -1; k < rules.size(); k++) {
            boolean good = true;
            for (int[] note : notes) {
                good &= runsAt(note[0], k)[note[1]] == note[2];
            }
            if (good) {
                out.add(k);
            }
        }
        return out;
    }

    int ruled(int what) {
        if (!now.hunted || !in(what, 0, 1)) {
            return -3;
        }
        List<Integer> so = so();
        return what == 0 ? so.size() : so.isEmpty() ? -2 : so.get(0);
    }

    int look(int n, int what) {
        if (!now.hunted || !in(n, 0, 60) || !in(what, 0, 1)) {
            return -1;
        }
        List<Integer> so = so();
        if (so.isEmpty() || now.horses.isEmpty()) {
            return -2;
        }
        int best = -1;
        int fewest = 99;
        for (int r = 0; r < now.horses.size(); r++) {
            int who = r;
            TreeMap<Integer, Integer> groups = new TreeMap<>();
            ToIntFunction<Integer> far = k -> runsAt(n, k)[who];
            so.forEach(k -> groups.merge(far.applyAsInt(k), 1, Integer::sum));
            int most = groups.values().stream().mapToInt(v -> v).max().getAsInt();
            if (most < fewest) {
                fewest = most;
                best = r;
            }
        }
        return what == 0 ? best : fewest;
    }

    int seed(int v) {
        if (v < 0) {
            return -1;
        }
        int was = x;
        x = v;
        return was;
    }

    int mornings(int m, int n, int p, int what) {
        if (!now.hunted || !in(m, 1, 10) || !in(n, 1, 60) || !in(p, 0, 100) || !in(what, 0, 1)) {
            return -1;
        }
        long y = x;
        int often = 0;
        int far = 0;
        for (int i = 0; i < m; i++) {
            State s = now.copy();
            for (int j = 0; j < n; j++) {
                y = (y * 1103515245L + 12345L) % 2147483648L;
                if (y / 65536 % 100 < p && s.horses.size() > 0) {
                    y = (y * 1103515245L + 12345L) % 2147483648L;
                    Horse h = s.horses.get((int) (y / 65536 % s.horses.size()));
                    if (h.ground == 0) {
                        h.run = Math.max(h.run - 2, 0);
                    }
                }
                if (go(s) >= 0) {
                    often++;
                }
            }
            far += s.fox;
        }
        return what == 0 ? often : far;
    }

    int count(int what) {
        int out = 0;
        int its = 0;
        for (int i = 0; i < now.horses.size(); i++) {
            out |= now.horses.get(i).ground > 0 ? 1 << i : 0;
            its += now.horses.get(i).was;
        }
        int[] all = {now.round, now.foxPace, now.law, now.horses.size(), now.gates.size(),
            rules.size(), force, now.step, now.fox, out, its, notes.size(), acts.size(), x,
            tape.length()};
        return in(what, 0, 14) ? all[what] : -1;
    }

    int image(int k) {
        if (!in(k, 0, 3)) {
            return -1;
        }
        images[k] = new Object[] {begun.copy(), now.copy(), new ArrayList<>(notes), force, x};
        return now.step;
    }

    @SuppressWarnings("unchecked")
    int back(int k) {
        if (!in(k, 0, 3) || images[k] == null) {
            return -1;
        }
        begun = ((State) images[k][0]).copy();
        now = ((State) images[k][1]).copy();
        notes = new ArrayList<>((List<int[]>) images[k][2]);
        force = (Integer) images[k][3];
        x = (Integer) images[k][4];
        acts.clear();
        return now.step;
    }
}
