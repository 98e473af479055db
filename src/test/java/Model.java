import java.util.ArrayDeque;
import java.util.ArrayList;
import java.util.Arrays;
import java.util.Deque;
import java.util.List;
import java.util.NoSuchElementException;
import java.util.TreeSet;

/**
 * The document once more, written another way: lists and sets in place of rows and bits, a tree in place of code, all
 * states copied whole. ModelTest makes the same calls on it and on PanNights and looks at the answers side by side.
 */
public final class Model {
    static final int NONE = -1;

    static final class Folk implements Cloneable {
        int threshold, thirst, pride, purse, wrong, feud = NONE;
        boolean strange, begins;

        Folk twin() {
            try {
                return (Folk) clone();
            } catch (CloneNotSupportedException e) {
                throw new AssertionError(e);
            }
        }
    }

    static final class State {
        List<Folk> folk = new ArrayList<>();
        List<int[]> log = new ArrayList<>();
        List<Line> law;
        int texts, target = NONE, borne, night, rain, watch, fine = 3, ale = 2, seed = 1;
        boolean wet;

        State twin() {
            State t = new State();
            for (Folk f : folk) {
                t.folk.add(f.twin());
            }
            t.log.addAll(log);
            t.law = law;
            t.texts = texts;
            t.target = target;
            t.borne = borne;
            t.night = night;
            t.rain = rain;
            t.watch = watch;
            t.fine = fine;
            t.ale = ale;
            t.seed = seed;
            t.wet = wet;
            return t;
        }

        int draw() {
            seed = seed * 1103515245 + 12345;
            return (seed >> 16) & 32767;
        }

        TreeSet<Integer> beginners() {
            TreeSet<Integer> set = new TreeSet<>();
            for (int i = 0; i < folk.size(); i++) {
                if (folk.get(i).begins) {
                    set.add(i);
                }
            }
            return set;
        }

        int purses() {
            return folk.stream().mapToInt(f -> f.purse).sum();
        }
    }

    interface Cond {
        boolean holds(State s, int who, int other);
    }

    interface Sum {
        int of(State s, int who, int other);
    }

    static final class Line {
        final String kind;
        final int n;
        final Cond cond;

        Line(String kind, int n, Cond cond) {
            this.kind = kind;
            this.n = n;
            this.cond = cond;
        }
    }

    static final class Wrong extends Exception {
        private static final long serialVersionUID = 1L;
        final int place;

        Wrong(int place) {
            this.place = place;
        }
    }

    /** Reads straight from the characters, a look ahead at a time. */
    static final class Reader {
        final String s;
        int i = 0;

        Reader(String s) {
            this.s = s;
        }

        void blanks() {
            while (i < s.length() && s.charAt(i) == ' ') {
                i++;
            }
        }

        String look() {
            blanks();
            if (i >= s.length()) {
                return "";
            }
            int j = i;
            char c = s.charAt(i);
            if (c >= 'a' && c <= 'z') {
                while (j < s.length() && s.charAt(j) >= 'a' && s.charAt(j) <= 'z') {
                    j++;
                }
            } else if (c >= '0' && c <= '9') {
                while (j < s.length() && s.charAt(j) >= '0' && s.charAt(j) <= '9') {
                    j++;
                }
            } else {
                j++;
            }
            return s.substring(i, j);
        }

        boolean may(String thing) {
            if (look().equals(thing)) {
                i += thing.length();
                return true;
            }
            return false;
        }

        void must(String thing) throws Wrong {
            if (!may(thing)) {
                throw wrong();
            }
        }

        Wrong wrong() {
            blanks();
            return new Wrong(i);
        }

        int number(int most) throws Wrong {
            String t = look();
            if (!t.matches("[0-9]{1,3}") || Integer.parseInt(t) > most) {
                throw wrong();
            }
            i += t.length();
            return Integer.parseInt(t);
        }
    }

    private State now = new State();
    private State image;
    private final Deque<State> past = new ArrayDeque<>();
    private final StringBuilder tape = new StringBuilder();
    private int fault = NONE;

    // ---- tape and texts

    public int feed(int a, int b, int c, int d, int e) {
        if (tape.length() + 20 > 400) {
            return NONE;
        }
        for (int n : new int[] {a, b, c, d, e}) {
            tape.append((char) (n >> 24 & 255)).append((char) (n >> 16 & 255)).append((char) (n >> 8 & 255)).append((char) (n & 255));
        }
        return tape.length();
    }

    public boolean end(int n) {
        if (n < 0 || n > tape.length()) {
            return false;
        }
        tape.setLength(n);
        return true;
    }

    private String useUp() {
        String s = tape.toString();
        tape.setLength(0);
        return s;
    }

    public int village() {
        State next = now.twin();
        try {
            readVillage(new Reader(useUp()), next);
            fault = NONE;
        } catch (Wrong w) {
            fault = w.place;
            throw new IllegalArgumentException();
        }
        if (now.texts == 12) {
            throw new UnsupportedOperationException();
        }
        now = next;
        now.texts++;
        past.clear();
        return now.texts;
    }

    private static void readVillage(Reader r, State s) throws Wrong {
        int lines = 0;
        if (r.look().isEmpty()) {
            return;
        }
        do {
            lines++;
            String word = r.look();
            if (lines > 14 || word.equals("person") && s.folk.size() == 8) {
                throw r.wrong();
            }
            int last = s.folk.size() - 1;
            if (r.may("person")) {
                Folk f = new Folk();
                r.must("needs");
                f.threshold = r.number(8);
                r.must("thirst");
                f.thirst = r.number(9);
                r.must("pride");
                f.pride = r.number(99);
                r.must("purse");
                f.purse = r.number(999);
                f.strange = r.may("strange");
                f.begins = r.may("begins");
                s.folk.add(f);
            } else if (r.may("wrong")) {
                Folk f = s.folk.isEmpty() ? null : s.folk.get(r.number(last));
                if (f == null) {
                    throw r.wrong();
                }
                f.wrong = r.number(9);
            } else if (r.may("feud")) {
                int a = r.number(last);
                r.must("with");
                r.blanks();
                int place = r.i;
                int b = r.number(last);
                if (a == b) {
                    throw new Wrong(place);
                }
                s.folk.get(a).feud = b;
            } else if (r.may("target")) {
                s.target = r.number(last);
                s.borne = 0;
            } else if (r.may("rain")) {
                s.rain = r.number(100);
            } else if (r.may("watch")) {
                s.watch = r.number(100);
            } else if (r.may("fine")) {
                s.fine = r.number(30);
            } else if (r.may("ale")) {
                s.ale = r.number(20);
            } else if (r.may("night")) {
                s.night = r.number(999);
            } else {
                throw r.wrong();
            }
        } while (r.may(";"));
        if (!r.look().isEmpty()) {
            throw r.wrong();
        }
    }

    public int law() {
        List<Line> lines = new ArrayList<>();
        try {
            readLaw(new Reader(useUp()), lines);
            fault = NONE;
        } catch (Wrong w) {
            fault = w.place;
            throw new IllegalArgumentException();
        }
        now.law = lines;
        past.clear();
        return lines.size();
    }

    private static void readLaw(Reader r, List<Line> lines) throws Wrong {
        if (r.look().isEmpty()) {
            return;
        }
        do {
            String kind = r.look();
            if (lines.size() == 12 || !List.of("need", "spare", "pan").contains(kind)) {
                throw r.wrong();
            }
            r.must(kind);
            int n = r.number(30);
            lines.add(new Line(kind, n, r.may("if") ? either(r, 0) : (s, who, other) -> true));
        } while (r.may(";"));
        if (!r.look().isEmpty()) {
            throw r.wrong();
        }
    }

    private static Cond either(Reader r, int deep) throws Wrong {
        Cond left = both(r, deep);
        if (!r.may("or")) {
            return left;
        }
        Cond right = either(r, deep);
        return (s, who, other) -> left.holds(s, who, other) || right.holds(s, who, other);
    }

    private static Cond both(Reader r, int deep) throws Wrong {
        Cond left = atom(r, deep);
        if (!r.may("and")) {
            return left;
        }
        Cond right = both(r, deep);
        return (s, who, other) -> left.holds(s, who, other) && right.holds(s, who, other);
    }

    private static Cond atom(Reader r, int deep) throws Wrong {
        String t = r.look();
        if ((t.equals("not") || t.equals("(")) && deep == 6) {
            throw r.wrong();
        }
        if (r.may("not")) {
            Cond c = atom(r, deep + 1);
            return (s, who, other) -> !c.holds(s, who, other);
        }
        if (r.may("(")) {
            Cond c = either(r, deep + 1);
            r.must(")");
            return c;
        }
        if (r.may("feud")) {
            return (s, who, other) -> s.folk.get(who).feud == other;
        }
        if (r.may("strange")) {
            return (s, who, other) -> s.folk.get(other).strange;
        }
        if (r.may("wet")) {
            return (s, who, other) -> s.wet;
        }
        Sum left = sum(r);
        boolean less = r.may("<");
        if (!less) {
            r.must(">");
        }
        Sum right = sum(r);
        return (s, who, other) -> less ? left.of(s, who, other) < right.of(s, who, other) : left.of(s, who, other) > right.of(s, who, other);
    }

    private static Sum sum(Reader r) throws Wrong {
        Sum left = part(r);
        if (!r.may("+")) {
            return left;
        }
        Sum right = sum(r);
        return (s, who, other) -> left.of(s, who, other) + right.of(s, who, other);
    }

    private static Sum part(Reader r) throws Wrong {
        if (r.may("who")) {
            return (s, who, other) -> who;
        }
        if (r.may("thirst")) {
            return (s, who, other) -> s.folk.get(who).thirst;
        }
        if (r.may("threshold")) {
            return (s, who, other) -> s.folk.get(who).threshold;
        }
        if (r.may("wrong")) {
            return (s, who, other) -> s.folk.get(other).wrong;
        }
        if (r.may("purse")) {
            return (s, who, other) -> s.folk.get(other).purse;
        }
        if (r.may("borne")) {
            return (s, who, other) -> s.target == other ? s.borne : 0;
        }
        if (r.may("night")) {
            return (s, who, other) -> s.night;
        }
        int n = r.number(999);
        return (s, who, other) -> n;
    }

    public int fault() {
        return fault;
    }

    // ---- crowds

    private static int lines(State s, String kind, int who, int other) {
        int sum = 0;
        if (s.law != null) {
            for (Line l : s.law) {
                if (l.kind.equals(kind) && l.cond.holds(s, who, other)) {
                    sum += l.n;
                }
            }
        }
        return sum;
    }

    private static int needs(State s, int who, int other) {
        return Math.max(0, s.folk.get(who).threshold + lines(s, "need", who, other) - lines(s, "spare", who, other));
    }

    private static int pans(State s, int who, int other) {
        return 1 + lines(s, "pan", who, other);
    }

    /** Each round's newcomers; round 0 stands there even if nobody is in it. */
    private static List<List<Integer>> crowd(State s, int target, TreeSet<Integer> beginners, TreeSet<Integer> home) {
        List<List<Integer>> rounds = new ArrayList<>();
        TreeSet<Integer> there = new TreeSet<>(beginners);
        there.remove(target);
        there.removeAll(home);
        rounds.add(new ArrayList<>(there));
        while (true) {
            List<Integer> fresh = new ArrayList<>();
            for (int p = 0; p < s.folk.size(); p++) {
                if (p != target && !home.contains(p) && !there.contains(p) && needs(s, p, target) <= there.size()) {
                    fresh.add(p);
                }
            }
            if (fresh.isEmpty()) {
                return rounds;
            }
            there.addAll(fresh);
            rounds.add(fresh);
        }
    }

    private static List<List<Integer>> crowd(State s, int target) {
        return crowd(s, target, s.beginners(), new TreeSet<>());
    }

    private static TreeSet<Integer> all(List<List<Integer>> rounds) {
        TreeSet<Integer> set = new TreeSet<>();
        rounds.forEach(set::addAll);
        return set;
    }

    private static int noise(State s, int target, TreeSet<Integer> came) {
        int sum = 0;
        for (int p : came) {
            sum += pans(s, p, target);
        }
        return sum;
    }

    private static int bits(Iterable<Integer> set) {
        int b = 0;
        for (int p : set) {
            b += 1 << p;
        }
        return b;
    }

    private static TreeSet<Integer> set(int bits) {
        TreeSet<Integer> set = new TreeSet<>();
        for (int p = 0; p < 8; p++) {
            if ((bits & 1 << p) != 0) {
                set.add(p);
            }
        }
        return set;
    }

    private static int roundOf(List<List<Integer>> rounds, int p) {
        for (int i = 0; i < rounds.size(); i++) {
            if (rounds.get(i).contains(p)) {
                return i;
            }
        }
        return NONE;
    }

    // ---- nights

    private static int night(State s, boolean ahead) {
        s.wet = !ahead && s.draw() % 100 < s.rain;
        int came = 0;
        if (s.target != NONE) {
            int target = s.target;
            Folk t = s.folk.get(target);
            TreeSet<Integer> crowd = all(crowd(s, target));
            came = crowd.size();
            int noise = noise(s, target, crowd);
            int kind = 0;
            if (came > 0) {
                if (!ahead && s.draw() % 100 < s.watch) {
                    kind = 1;
                    for (int p : crowd) {
                        Folk f = s.folk.get(p);
                        f.purse -= Math.min(f.purse, s.fine);
                    }
                } else if (noise >= t.pride && t.purse >= s.ale * came) {
                    kind = 2;
                    payOff(s, crowd);
                } else {
                    kind = 3;
                    t.pride = Math.max(0, t.pride - noise / 4);
                }
            }
            s.log.add(0, new int[] {s.night, target, came, kind});
            if (s.log.size() > 60) {
                s.log.remove(60);
            }
            if (s.target != NONE && ++s.borne == 3) {
                t.wrong = 0;
                s.target = NONE;
                s.borne = 0;
            }
        }
        s.night = Math.min(9999, s.night + 1);
        return came;
    }

    private static void payOff(State s, TreeSet<Integer> crowd) {
        Folk t = s.folk.get(s.target);
        t.purse -= s.ale * crowd.size();
        for (int p : crowd) {
            Folk f = s.folk.get(p);
            f.thirst = Math.max(0, f.thirst - 1);
        }
        t.wrong = 0;
        s.target = NONE;
        s.borne = 0;
    }

    private State later(int n, boolean ahead, int seed) {
        State s = now.twin();
        s.seed = seed;
        for (int i = 0; i < n; i++) {
            night(s, ahead);
        }
        return s;
    }

    // ---- what is looked at first

    private Folk folk(int p) {
        if (p < 0 || p >= now.folk.size()) {
            throw new IndexOutOfBoundsException();
        }
        return now.folk.get(p);
    }

    private void two(int p, int q) {
        folk(p);
        folk(q);
        if (p == q) {
            throw new IllegalArgumentException();
        }
    }

    private static void within(int n, int least, int most) {
        if (n < least || n > most) {
            throw new IllegalArgumentException();
        }
    }

    private void remember() {
        past.push(now.twin());
        if (past.size() > 12) {
            past.removeLast();
        }
    }

    // ---- facts and acts

    public int person(int p, int what) {
        Folk f = folk(p);
        if (what < 0 || what > 7) {
            throw new NoSuchElementException();
        }
        return new int[] {f.threshold, f.thirst, f.pride, f.purse, f.wrong, f.feud, f.strange ? 1 : 0, f.begins ? 1 : 0}[what];
    }

    public int against(int p, int q, boolean pans) {
        two(p, q);
        return pans ? pans(now, p, q) : needs(now, p, q);
    }

    public int name(int p) {
        if (folk(p).wrong == 0) {
            throw new IllegalStateException();
        }
        remember();
        int was = now.target;
        now.target = p;
        now.borne = 0;
        return was;
    }

    public boolean begin(int p, boolean is) {
        Folk f = folk(p);
        remember();
        boolean was = f.begins;
        now.folk.get(p).begins = is;
        return was != is;
    }

    public int buy() {
        if (now.target == NONE) {
            throw new IllegalStateException();
        }
        int t = now.target;
        TreeSet<Integer> crowd = all(crowd(now, t));
        if (folk(t).purse < now.ale * crowd.size()) {
            throw new IllegalStateException();
        }
        remember();
        payOff(now, crowd);
        return folk(t).purse;
    }

    public int feud(int p, int q) {
        Folk f = folk(p);
        if (q != NONE) {
            two(p, q);
        }
        remember();
        int was = f.feud;
        f.feud = q;
        return was;
    }

    public int teach(int p, int n) {
        Folk f = folk(p);
        within(n, 0, 8);
        remember();
        int was = f.threshold;
        f.threshold = n;
        return was;
    }

    public int wrong(int p, int n) {
        Folk f = folk(p);
        within(n, 0, 9);
        remember();
        int was = f.wrong;
        f.wrong = n;
        return was;
    }

    public int give(int p, int n) {
        Folk f = folk(p);
        within(n, 1, 999);
        remember();
        f.purse = Math.min(9999, f.purse + n);
        return f.purse;
    }

    public int nights(int n) {
        within(n, 1, 60);
        remember();
        int came = 0;
        for (int i = 0; i < n; i++) {
            came += night(now, false);
        }
        return came;
    }

    // ---- questions

    public int comes(int t) {
        folk(t);
        return bits(all(crowd(now, t)));
    }

    public int rounds(int t) {
        folk(t);
        return crowd(now, t).size() - 1;
    }

    public int when(int p, int t) {
        two(p, t);
        return roundOf(crowd(now, t), p);
    }

    public int loud(int t) {
        folk(t);
        return noise(now, t, all(crowd(now, t)));
    }

    /** All sets of numbers below 8, the fewest first, of as many the least as bits first. */
    private static List<Integer> setsBySize() {
        List<Integer> sets = new ArrayList<>();
        for (int i = 0; i < 256; i++) {
            sets.add(i);
        }
        sets.sort((x, y) -> Integer.bitCount(x) != Integer.bitCount(y) ? Integer.bitCount(x) - Integer.bitCount(y) : x - y);
        return sets;
    }

    public int fewest(int t, int x) {
        folk(t);
        within(x, 0, 8);
        for (int b : setsBySize()) {
            if (b >> now.folk.size() == 0 && all(crowd(now, t, set(b), new TreeSet<>())).size() >= x) {
                return b;
            }
        }
        return NONE;
    }

    public int keep(int t) {
        int pride = folk(t).pride;
        TreeSet<Integer> comes = all(crowd(now, t));
        for (int b : setsBySize()) {
            if (comes.containsAll(set(b)) && noise(now, t, all(crowd(now, t, now.beginners(), set(b)))) < pride) {
                return b;
            }
        }
        return NONE;
    }

    public int tips(int t) {
        folk(t);
        int found = NONE;
        int least = 99;
        for (int p : all(crowd(now, t))) {
            int n = all(crowd(now, t, now.beginners(), set(1 << p))).size();
            if (n < least) {
                least = n;
                found = p;
            }
        }
        return found;
    }

    public int price(int t) {
        folk(t);
        return now.ale * all(crowd(now, t)).size();
    }

    public boolean can(int t) {
        return folk(t).purse >= price(t);
    }

    public int dearest() {
        int found = NONE;
        for (int t = 0; t < now.folk.size(); t++) {
            boolean fits = loud(t) >= folk(t).pride && can(t) && comes(t) != 0;
            if (fits && (found == NONE || price(t) > price(found))) {
                found = t;
            }
        }
        return found;
    }

    public int brings(int ale) {
        within(ale, 0, 20);
        int sum = 0;
        for (int t = 0; t < now.folk.size(); t++) {
            int price = ale * Integer.bitCount(comes(t));
            if (loud(t) >= folk(t).pride && folk(t).purse >= price) {
                sum += price;
            }
        }
        return sum;
    }

    public int best() {
        int found = 0;
        for (int a = 20; a >= 0; a--) {
            if (brings(a) >= brings(found)) {
                found = a;
            }
        }
        return found;
    }

    public int rests(int t) {
        Folk f = folk(t);
        TreeSet<Integer> came = all(crowd(now, t));
        int thirst = 0;
        for (int p : came) {
            thirst += folk(p).thirst;
        }
        int noise = noise(now, t, came);
        int[][] loss = {{price(t), 1}, {noise, 0}, {f.wrong, 0}};
        int[][] gain = {{thirst, 0}, {noise, 0}, {-1, 0}};
        int found = 0;
        for (int one = 0; one < 3; one++) {
            for (int two = 0; two < 2; two++) {
                boolean rests = gain[one][two] >= gain[one][1 - two];
                for (int other = 0; other < 3; other++) {
                    rests &= loss[one][two] <= loss[other][two];
                }
                found |= rests ? 1 << 2 * one + two : 0;
            }
        }
        return found;
    }

    private List<Integer> heardSets(int t) {
        String pairs = useUp();
        folk(t);
        if (pairs.length() > 40 || pairs.length() % 2 == 1) {
            throw new IllegalArgumentException();
        }
        for (int i = 0; i < pairs.length(); i += 2) {
            int a = pairs.charAt(i);
            int b = pairs.charAt(i + 1);
            if (a >= now.folk.size() || b >= now.folk.size() || a == b || a == t || b == t) {
                throw new IllegalArgumentException();
            }
        }
        List<Integer> sets = new ArrayList<>();
        for (int s = 0; s < 1 << now.folk.size(); s++) {
            if ((s >> t & 1) == 0) {
                List<List<Integer>> rounds = crowd(now, t, set(s), new TreeSet<>());
                boolean fits = true;
                for (int i = 0; i < pairs.length(); i += 2) {
                    int a = roundOf(rounds, pairs.charAt(i));
                    int b = roundOf(rounds, pairs.charAt(i + 1));
                    fits &= a >= 0 && b >= 0 && a < b;
                }
                if (fits) {
                    sets.add(s);
                }
            }
        }
        return sets;
    }

    public int heard(int t, boolean sure) {
        List<Integer> sets = heardSets(t);
        return !sure ? sets.size() : sets.stream().reduce((a, b) -> a & b).orElse(0);
    }

    public int ask(int t) {
        List<Integer> sets = heardSets(t);
        int found = NONE;
        int least = 999;
        for (int p = 0; p < now.folk.size() && sets.size() > 1; p++) {
            int with = 0;
            for (int s : sets) {
                with += s >> p & 1;
            }
            int greater = Math.max(with, sets.size() - with);
            if (p != t && greater < least) {
                least = greater;
                found = p;
            }
        }
        return found;
    }

    public int feuded(int t) {
        folk(t);
        TreeSet<Integer> came = all(crowd(now, t));
        came.removeIf(p -> folk(p).feud != t);
        return bits(came);
    }

    public int feuds() {
        int n = 0;
        for (int p = 0; p < now.folk.size(); p++) {
            for (int q = 0; q < p; q++) {
                n += folk(p).feud == q && folk(q).feud == p ? 1 : 0;
            }
        }
        return n;
    }

    public boolean ring(int p) {
        TreeSet<Integer> seen = new TreeSet<>();
        int at = folk(p).feud;
        while (at != NONE && seen.add(at)) {
            at = folk(at).feud;
        }
        return seen.contains(p);
    }

    public int hated() {
        int[] by = new int[8];
        now.folk.forEach(f -> {
            if (f.feud != NONE) {
                by[f.feud]++;
            }
        });
        int most = Arrays.stream(by).max().orElse(0);
        for (int p = 0; p < 8 && most > 0; p++) {
            if (by[p] == most) {
                return p;
            }
        }
        return NONE;
    }

    public int watched(int t) {
        folk(t);
        return all(crowd(now, t)).stream().mapToInt(p -> Math.min(now.fine, folk(p).purse)).sum();
    }

    public int ripest() {
        int found = NONE;
        for (int t = now.folk.size() - 1; t >= 0; t--) {
            if (watched(t) > 0 && (found == NONE || watched(t) >= watched(found))) {
                found = t;
            }
        }
        return found;
    }

    public int brave(int t) {
        folk(t);
        int found = NONE;
        for (int p = now.folk.size() - 1; p >= 0; p--) {
            if (p != t && (found == NONE || needs(now, p, t) <= needs(now, found, t))) {
                found = p;
            }
        }
        return found;
    }

    public int alike() {
        int n = 0;
        for (Folk f : now.folk) {
            for (Folk g : now.folk) {
                n += f != g && f.threshold == g.threshold && f.thirst == g.thirst && f.pride == g.pride ? 1 : 0;
            }
        }
        return n / 2;
    }

    public int ends() {
        for (int n = 1; n <= 60 && now.target != NONE; n++) {
            if (later(n, true, now.seed).target == NONE) {
                return n;
            }
        }
        return NONE;
    }

    public int spent(int p, int n) {
        folk(p);
        within(n, 0, 60);
        return folk(p).purse - later(n, true, now.seed).folk.get(p).purse;
    }

    public int calm(int n) {
        within(n, 0, 60);
        return now.target == NONE ? 0 : later(n, true, now.seed).folk.get(now.target).pride;
    }

    public int share(int p, int t) {
        two(p, t);
        TreeSet<Integer> came = all(crowd(now, t));
        return came.contains(p) ? pans(now, p, t) * 100 / noise(now, t, came) : 0;
    }

    public int trial(int n, boolean target) {
        within(n, 0, 60);
        State s = later(n, false, now.seed);
        return target ? s.target : s.purses();
    }

    public int span(int n, boolean most) {
        within(n, 0, 60);
        TreeSet<Integer> sums = new TreeSet<>();
        for (int seed = 1; seed <= 6; seed++) {
            sums.add(later(n, false, seed).purses());
        }
        return most ? sums.last() : sums.first();
    }

    // ---- the log, undoing, the image

    public int led(int t, boolean night) {
        folk(t);
        int rows = 0;
        int latest = NONE;
        for (int i = now.log.size() - 1; i >= 0; i--) {
            if (now.log.get(i)[1] == t) {
                rows++;
                latest = now.log.get(i)[0];
            }
        }
        return night ? latest : rows;
    }

    public int log(int ago, int what) {
        if (what < 0 || what > 3) {
            throw new NoSuchElementException();
        }
        return ago < 0 || ago >= now.log.size() ? NONE : now.log.get(ago)[what];
    }

    public int seed(int n) {
        int was = now.seed;
        now.seed = n;
        return was;
    }

    public boolean undo() {
        if (past.isEmpty()) {
            return false;
        }
        now = past.pop();
        return true;
    }

    public void image() {
        image = now.twin();
    }

    public boolean back() {
        if (image == null) {
            return false;
        }
        now = image.twin();
        past.clear();
        return true;
    }

    public int count(int what) {
        int[] facts = {now.folk.size(), now.texts, now.law == null ? NONE : now.law.size(), now.night, now.wet ? 1 : 0,
            now.target, now.borne, now.rain, now.watch, now.fine, now.ale, bits(now.beginners()), now.purses(),
            now.log.size(), past.size()};
        return what < 0 || what >= facts.length ? NONE : facts[what];
    }
}
