import java.util.ArrayDeque;
import java.util.ArrayList;
import java.util.Arrays;
import java.util.Deque;
import java.util.List;
import java.util.NoSuchElementException;
import java.util.function.ToIntBiFunction;

/**
 * The document told a second time, in the plainest way and without a thought of room or speed:
 * nothing is kept that can be asked anew, and each question works on a copy of all.
 * RandomRunsTest holds the class against it.
 */
final class Model {
    private static final int NONE = -1;

    private interface Rule extends ToIntBiFunction<State, Integer> {
    }

    private record Line(String kind, int n, Rule when) {
    }

    private record Row(int week, int thing, int from, int to, int stolen) {
    }

    private static final class Wrong extends Exception {
        private static final long serialVersionUID = 1L;
        final int at;

        Wrong(int at) {
            this.at = at;
        }
    }

    private static final class Plank {
        int bears, age;
        boolean propped, broken;
    }

    private static final class House {
        int purse = 100, guests;
    }

    private static final class Thing {
        int weight, worth, home;
    }

    private static final class State {
        List<Plank> planks = new ArrayList<>();
        List<House> houses = new ArrayList<>();
        List<Thing> things = new ArrayList<>();
        List<Row> log = new ArrayList<>();
        List<Line> law;
        int texts, snow, step = 10, fall, thieves, fee = 3, week, seed = 1;

        State copy() {
            State c = new State();
            for (Plank p : planks) {
                Plank q = new Plank();
                q.bears = p.bears;
                q.age = p.age;
                q.propped = p.propped;
                q.broken = p.broken;
                c.planks.add(q);
            }
            for (House h : houses) {
                House g = new House();
                g.purse = h.purse;
                g.guests = h.guests;
                c.houses.add(g);
            }
            for (Thing t : things) {
                Thing u = new Thing();
                u.weight = t.weight;
                u.worth = t.worth;
                u.home = t.home;
                c.things.add(u);
            }
            c.log.addAll(log);
            c.law = law;
            c.texts = texts;
            c.snow = snow;
            c.step = step;
            c.fall = fall;
            c.thieves = thieves;
            c.fee = fee;
            c.week = week;
            c.seed = seed;
            return c;
        }

        int load(int h) {
            int sum = snow + 5 * houses.get(h).guests;
            for (Thing t : things) sum += t.home == h ? t.weight : 0;
            return sum;
        }

        int bareTilt(int p) {
            double d = (load(2 * p + 1) - load(2 * p)) / (double) step;
            int steps = (int) (d < 0 ? Math.ceil(d) : Math.floor(d));
            return steps < -5 ? -5 : steps > 5 ? 5 : steps;
        }

        int tilt(int p) {
            return planks.get(p).propped ? 0 : bareTilt(p);
        }

        int height(int h) {
            if (planks.get(h / 2).broken) return 0;
            return h % 2 == 0 ? 5 + tilt(h / 2) : 5 - tilt(h / 2);
        }

        boolean level(int p) {
            return !planks.get(p).broken && tilt(p) == 0;
        }

        int lines(String kind, int h) {
            int sum = 0;
            if (law == null) return 0;
            for (Line l : law) if (l.kind.equals(kind) && l.when.applyAsInt(this, h) != 0) sum += l.n;
            return sum;
        }

        int pays(int h) {
            return fee * height(h) + lines("rent", h);
        }

        int lures(int h) {
            int sum = lines("lure", h);
            for (Thing t : things) sum += t.home == h ? t.worth : 0;
            return sum;
        }

        int ages(int p) {
            return 1 + lines("age", 2 * p);
        }

        int draw() {
            seed = (int) (1103515245L * seed + 12345L);
            return (seed >> 16) & 0x7fff;
        }

        int lured(int guarded) {
            int who = NONE;
            for (int h = 0; h < houses.size(); h++) {
                if ((guarded & 1 << h) != 0) continue;
                if (who == NONE || lures(h) > lures(who)) who = h;
            }
            return who;
        }

        int dearest(int h) {
            int what = NONE;
            for (int t = 0; t < things.size(); t++) {
                if (h == NONE || things.get(t).home != h) continue;
                if (what == NONE || things.get(t).worth > things.get(what).worth) what = t;
            }
            return what;
        }

        void note(int thing, int from, int to) {
            log.add(new Row(week, thing, from, to, to == NONE ? 1 : 0));
            if (log.size() > 60) log.remove(0);
        }

        void week(boolean draws) {
            if (draws) {
                if (draw() % 100 < fall) snow = Math.min(99, snow + draw() % 10);
                else snow = snow / 2;
            }
            for (int h = 0; h < houses.size(); h++) {
                if (planks.get(h / 2).broken) continue;
                houses.get(h).purse = Math.max(0, houses.get(h).purse - pays(h));
            }
            if (draws && draw() % 100 < thieves) {
                int h = lured(0);
                int t = dearest(h);
                if (t != NONE) {
                    note(t, h, NONE);
                    things.get(t).home = NONE;
                }
            }
            for (int p = 0; p < planks.size(); p++) {
                Plank k = planks.get(p);
                if (k.broken) continue;
                k.age = Math.min(99, k.age + ages(p));
                if (load(2 * p) + load(2 * p + 1) > k.bears - k.age) k.broken = true;
            }
            week = Math.min(9999, week + 1);
        }

        State ahead(int n) {
            State c = copy();
            for (int i = 0; i < n; i++) c.week(false);
            return c;
        }

        int gone() {
            int set = 0;
            for (int t = 0; t < things.size(); t++) if (things.get(t).home == NONE) set |= 1 << t;
            return set;
        }

        int weight(int set) {
            int sum = 0;
            for (int t = 0; t < things.size(); t++) if ((set & 1 << t) != 0) sum += things.get(t).weight;
            return sum;
        }
    }

    /** Cuts and reads a text; every step that cannot be throws Wrong with the byte. */
    private static final class Text {
        final String text;
        int at;

        Text(byte[] bytes, int length) {
            StringBuilder b = new StringBuilder();
            for (int i = 0; i < length; i++) b.append((char) (bytes[i] & 255));
            text = b.toString();
        }

        private void blanks() {
            while (at < text.length() && text.charAt(at) == ' ') at++;
        }

        boolean ended() {
            blanks();
            return at == text.length();
        }

        String peek() {
            blanks();
            int to = at;
            while (to < text.length() && text.charAt(to) >= 'a' && text.charAt(to) <= 'z') to++;
            if (to > at) return text.substring(at, to);
            while (to < text.length() && text.charAt(to) >= '0' && text.charAt(to) <= '9') to++;
            if (to > at) return text.substring(at, to);
            return at < text.length() ? text.substring(at, at + 1) : "";
        }

        boolean take(String word) {
            if (!peek().equals(word)) return false;
            at += word.length();
            return true;
        }

        void must(String word) throws Wrong {
            if (!take(word)) throw new Wrong(at);
        }

        int number(int least, int most) throws Wrong {
            String s = peek();
            if (s.isEmpty() || !Character.isDigit(s.charAt(0)) || s.length() > 3) throw new Wrong(at);
            int n = Integer.parseInt(s);
            if (n < least || n > most) throw new Wrong(at);
            at += s.length();
            return n;
        }

        void hill(State to) throws Wrong {
            if (ended()) return;
            int lines = 0;
            do {
                String word = peek();
                lines++;
                if (lines > 14) throw new Wrong(at);
                int houses = to.houses.size() - 1;
                switch (word) {
                    case "plank" -> {
                        if (to.planks.size() == 5) throw new Wrong(at);
                        take(word);
                        Plank p = new Plank();
                        p.bears = number(10, 400);
                        if (take("age")) p.age = number(0, 99);
                        to.planks.add(p);
                        to.houses.add(new House());
                        to.houses.add(new House());
                    }
                    case "purse" -> {
                        take(word);
                        int h = number(0, houses);
                        to.houses.get(h).purse = number(0, 999);
                    }
                    case "guests" -> {
                        take(word);
                        int h = number(0, houses);
                        to.houses.get(h).guests = number(0, 9);
                    }
                    case "thing" -> {
                        if (to.things.size() == 10) throw new Wrong(at);
                        take(word);
                        Thing t = new Thing();
                        t.weight = number(1, 60);
                        must("worth");
                        t.worth = number(0, 99);
                        must("in");
                        t.home = number(0, houses);
                        to.things.add(t);
                    }
                    case "snow" -> {
                        take(word);
                        to.snow = number(0, 99);
                    }
                    case "step" -> {
                        take(word);
                        to.step = number(1, 40);
                    }
                    case "fall" -> {
                        take(word);
                        to.fall = number(0, 100);
                    }
                    case "thieves" -> {
                        take(word);
                        to.thieves = number(0, 100);
                    }
                    case "fee" -> {
                        take(word);
                        to.fee = number(0, 99);
                    }
                    default -> throw new Wrong(at);
                }
            } while (take(";"));
            if (!ended()) throw new Wrong(at);
        }

        List<Line> law() throws Wrong {
            List<Line> lines = new ArrayList<>();
            if (ended()) return lines;
            do {
                String word = peek();
                if (lines.size() == 12 || !List.of("rent", "lure", "age").contains(word)) throw new Wrong(at);
                take(word);
                int n = number(0, 60);
                lines.add(new Line(word, n, take("if") ? any(0) : (s, h) -> 1));
            } while (take(";"));
            if (!ended()) throw new Wrong(at);
            return lines;
        }

        Rule any(int deep) throws Wrong {
            Rule left = all(deep);
            while (take("or")) {
                Rule a = left;
                Rule b = all(deep);
                left = (s, h) -> a.applyAsInt(s, h) != 0 || b.applyAsInt(s, h) != 0 ? 1 : 0;
            }
            return left;
        }

        Rule all(int deep) throws Wrong {
            Rule left = atom(deep);
            while (take("and")) {
                Rule a = left;
                Rule b = atom(deep);
                left = (s, h) -> a.applyAsInt(s, h) != 0 && b.applyAsInt(s, h) != 0 ? 1 : 0;
            }
            return left;
        }

        Rule atom(int deep) throws Wrong {
            String word = peek();
            if (word.equals("not") || word.equals("(")) {
                if (deep == 6) throw new Wrong(at);
                take(word);
                if (word.equals("(")) {
                    Rule in = any(deep + 1);
                    must(")");
                    return in;
                }
                Rule in = atom(deep + 1);
                return (s, h) -> in.applyAsInt(s, h) == 0 ? 1 : 0;
            }
            if (take("up")) return (s, h) -> s.height(h) > 5 ? 1 : 0;
            if (take("level")) return (s, h) -> s.level(h / 2) ? 1 : 0;
            Rule left = sum();
            boolean less = peek().equals("<");
            if (!less) must(">");
            else must("<");
            Rule right = sum();
            return (s, h) -> {
                int l = left.applyAsInt(s, h);
                int r = right.applyAsInt(s, h);
                return (less ? l < r : l > r) ? 1 : 0;
            };
        }

        Rule sum() throws Wrong {
            Rule left = part();
            while (take("+")) {
                Rule a = left;
                Rule b = part();
                left = (s, h) -> a.applyAsInt(s, h) + b.applyAsInt(s, h);
            }
            return left;
        }

        Rule part() throws Wrong {
            if (take("house")) return (s, h) -> h;
            if (take("height")) return (s, h) -> s.height(h);
            if (take("load")) return (s, h) -> s.load(h);
            if (take("guests")) return (s, h) -> s.houses.get(h).guests;
            if (take("aged")) return (s, h) -> s.planks.get(h / 2).age;
            if (take("week")) return (s, h) -> s.week;
            int n = number(0, 999);
            return (s, h) -> n;
        }
    }

    private State now = new State();
    private State image;
    private final Deque<State> past = new ArrayDeque<>();
    private final byte[] tape = new byte[400];
    private int fed;
    private int wrong = NONE;

    private void checkPlank(int p) {
        if (p < 0 || p >= now.planks.size()) throw new IndexOutOfBoundsException();
    }

    private void checkHouse(int h) {
        if (h < 0 || h >= now.houses.size()) throw new IndexOutOfBoundsException();
    }

    private void checkThing(int t) {
        if (t < 0 || t >= now.things.size()) throw new IndexOutOfBoundsException();
    }

    private void checkNumber(int n, int least, int most) {
        if (n < least || n > most) throw new IllegalArgumentException();
    }

    private void act() {
        past.push(now.copy());
        if (past.size() > 12) past.removeLast();
    }

    int feed(int a, int b, int c, int d, int e) {
        if (fed > 380) return NONE;
        for (int n : new int[] {a, b, c, d, e}) {
            tape[fed++] = (byte) (n >> 24);
            tape[fed++] = (byte) (n >> 16);
            tape[fed++] = (byte) (n >> 8);
            tape[fed++] = (byte) n;
        }
        return fed;
    }

    boolean end(int n) {
        if (n < 0 || n > fed) return false;
        fed = n;
        return true;
    }

    int hill() {
        Text text = new Text(tape, fed);
        fed = 0;
        State then = now.copy();
        try {
            text.hill(then);
            wrong = NONE;
        } catch (Wrong w) {
            wrong = w.at;
            throw new IllegalArgumentException();
        }
        if (now.texts == 12) throw new UnsupportedOperationException();
        now = then;
        past.clear();
        return ++now.texts;
    }

    int law() {
        Text text = new Text(tape, fed);
        fed = 0;
        try {
            now.law = text.law();
            wrong = NONE;
        } catch (Wrong w) {
            wrong = w.at;
            throw new IllegalArgumentException();
        }
        past.clear();
        return now.law.size();
    }

    int fault() {
        return wrong;
    }

    int plank(int p, int what) {
        checkPlank(p);
        Plank k = now.planks.get(p);
        return switch (what) {
            case 0 -> k.bears;
            case 1 -> k.age;
            case 2 -> k.propped ? 1 : 0;
            case 3 -> k.broken ? 1 : 0;
            case 4 -> now.tilt(p) + 5;
            case 5 -> now.level(p) ? 1 : 0;
            case 6 -> now.ages(p);
            default -> throw new NoSuchElementException();
        };
    }

    int house(int h, int what) {
        checkHouse(h);
        switch (what) {
            case 0: return now.houses.get(h).purse;
            case 1: return now.houses.get(h).guests;
            case 2: return now.load(h);
            case 3: return now.height(h);
            case 4:
                int set = 0;
                for (int t = 0; t < now.things.size(); t++) if (now.things.get(t).home == h) set |= 1 << t;
                return set;
            case 5: return now.pays(h);
            case 6: return now.lures(h);
            case 7:
                int all = 0;
                for (int g = 0; g < now.houses.size(); g++) if (now.height(g) < 5) all += 5 - now.height(g);
                if (all == 0 || now.height(h) >= 5) return 0;
                return (5 - now.height(h)) * 100 / all;
            case 8:
                State c = now.copy();
                c.houses.get(h).guests = 0;
                for (Thing t : c.things) if (t.home == h) t.home = NONE;
                return c.height(h);
            default: throw new NoSuchElementException();
        }
    }

    int thing(int t, int what) {
        checkThing(t);
        Thing u = now.things.get(t);
        return switch (what) {
            case 0 -> u.weight;
            case 1 -> u.worth;
            case 2 -> u.home;
            default -> throw new NoSuchElementException();
        };
    }

    int carry(int t, int h) {
        checkThing(t);
        checkHouse(h);
        int from = now.things.get(t).home;
        if (from == NONE) throw new IllegalStateException();
        act();
        now.things.get(t).home = h;
        now.note(t, from, h);
        return from;
    }

    int guests(int h, int n) {
        checkHouse(h);
        checkNumber(n, 0, 9);
        act();
        int were = now.houses.get(h).guests;
        now.houses.get(h).guests = n;
        return were;
    }

    boolean prop(int p, boolean is) {
        checkPlank(p);
        act();
        boolean was = now.planks.get(p).propped;
        now.planks.get(p).propped = is;
        return was != is;
    }

    int mend(int p) {
        checkPlank(p);
        if (!now.planks.get(p).broken) throw new IllegalStateException();
        act();
        int age = now.planks.get(p).age;
        now.planks.get(p).broken = false;
        now.planks.get(p).age = 0;
        return age;
    }

    int give(int h, int other, int n) {
        checkHouse(h);
        checkHouse(other);
        if (h == other || n < 1 || n > now.houses.get(h).purse) throw new IllegalArgumentException();
        act();
        now.houses.get(h).purse -= n;
        House to = now.houses.get(other);
        to.purse = Math.min(9999, to.purse + n);
        return to.purse;
    }

    int sweep() {
        act();
        int was = now.snow;
        now.snow = 0;
        return was;
    }

    int weeks(int n) {
        checkNumber(n, 1, 60);
        act();
        int before = Integer.bitCount(now.gone());
        for (int i = 0; i < n; i++) now.week(true);
        return Integer.bitCount(now.gone()) - before;
    }

    int view() {
        int set = 0;
        for (int h = 0; h < now.houses.size(); h++) if (now.height(h) > 5) set += 1 << h;
        return set;
    }

    int well() {
        int set = 0;
        for (int h = 0; h < now.houses.size(); h++) if (now.height(h) < 5) set += 1 << h;
        return set;
    }

    int twins() {
        int n = 0;
        for (int p = 0; p < now.planks.size(); p++) {
            for (int q = 0; q < p; q++) {
                if (now.planks.get(p).broken || now.planks.get(q).broken) continue;
                if (now.tilt(p) == now.tilt(q)) n++;
            }
        }
        return n;
    }

    int best(int p) {
        checkPlank(p);
        int least = Math.abs(now.load(2 * p) - now.load(2 * p + 1));
        int best = NONE;
        for (int t = 0; t < now.things.size(); t++) {
            State c = now.copy();
            Thing u = c.things.get(t);
            if (u.home == NONE || u.home / 2 != p) continue;
            u.home = u.home ^ 1;
            int differ = Math.abs(c.load(2 * p) - c.load(2 * p + 1));
            if (differ < least) {
                least = differ;
                best = t;
            }
        }
        return best;
    }

    private int carried(int p, int tilt, boolean byWeight) {
        int best = NONE;
        int cost = 0;
        for (int set = 0; set < 1 << now.things.size(); set++) {
            State c = now.copy();
            boolean can = true;
            for (int t = 0; t < c.things.size(); t++) {
                if ((set & 1 << t) == 0) continue;
                Thing u = c.things.get(t);
                if (u.home == NONE || u.home / 2 != p) can = false;
                else u.home ^= 1;
            }
            if (!can || c.bareTilt(p) != tilt) continue;
            int costs = byWeight ? now.weight(set) : Integer.bitCount(set);
            if (best == NONE || costs < cost) {
                best = set;
                cost = costs;
            }
        }
        return best;
    }

    int stand(int p, int tilt) {
        checkPlank(p);
        checkNumber(tilt, -5, 5);
        return carried(p, tilt, false);
    }

    int heave(int p, int tilt, boolean much) {
        checkPlank(p);
        checkNumber(tilt, -5, 5);
        int set = carried(p, tilt, true);
        return set == NONE ? NONE : much ? now.weight(set) : set;
    }

    int breaks(int p) {
        checkPlank(p);
        if (now.planks.get(p).broken) return NONE;
        State c = now.copy();
        for (int n = 1; n <= 100; n++) {
            c.week(false);
            if (c.planks.get(p).broken) return n;
        }
        return NONE;
    }

    int more(int p) {
        checkPlank(p);
        Plank k = now.planks.get(p);
        return k.broken ? -10000 : k.bears - k.age - now.load(2 * p) - now.load(2 * p + 1);
    }

    int last() {
        int last = NONE;
        int when = 0;
        for (int p = 0; p < now.planks.size(); p++) {
            if (now.planks.get(p).broken) continue;
            int n = breaks(p);
            if (n == NONE) n = 1000;
            if (last == NONE || n > when) {
                last = p;
                when = n;
            }
        }
        return last;
    }

    /** All ways to pair a list, in the order of the document's first way. */
    private static List<int[]> ways(List<Integer> houses) {
        List<int[]> all = new ArrayList<>();
        if (houses.isEmpty()) {
            int[] none = new int[10];
            Arrays.fill(none, NONE);
            all.add(none);
            return all;
        }
        int one = houses.get(0);
        for (int i = 1; i < houses.size(); i++) {
            int other = houses.get(i);
            List<Integer> rest = new ArrayList<>(houses);
            rest.remove(i);
            rest.remove(0);
            for (int[] way : ways(rest)) {
                way[one] = other;
                way[other] = one;
                all.add(way);
            }
        }
        return all;
    }

    int match(int houses, int house) {
        if (house != NONE) checkHouse(house);
        List<Integer> set = new ArrayList<>();
        for (int h = 0; h < now.houses.size(); h++) if ((houses & 1 << h) != 0) set.add(h);
        if (set.size() % 2 == 1 || set.size() > 8) return NONE;
        int[] first = null;
        int least = 0;
        for (int[] way : ways(set)) {
            int sum = 0;
            for (int h : set) if (way[h] > h) sum += Math.abs(now.load(h) - now.load(way[h]));
            if (first == null || sum < least) {
                first = way;
                least = sum;
            }
        }
        return house == NONE ? least : first[house];
    }

    private List<Integer> fits(int p) {
        int length = fed;
        fed = 0;
        checkPlank(p);
        if (length % 2 == 1 || length > 40) throw new IllegalArgumentException();
        for (int i = 0; i < length; i++) checkNumber(tape[i] & 255, 0, i % 2 == 0 ? 20 : 10);
        List<Integer> sets = new ArrayList<>();
        for (int set = 0; set < 1 << now.things.size(); set++) {
            if ((set & ~now.gone()) != 0) continue;
            boolean fits = true;
            for (int i = 0; i < length; i += 2) fits &= heightWith(p, set, tape[i]) == tape[i + 1];
            if (fits) sets.add(set);
        }
        return sets;
    }

    private int heightWith(int p, int set, int guests) {
        State c = now.copy();
        c.houses.get(2 * p).guests += guests;
        for (int t = 0; t < c.things.size(); t++) if ((set & 1 << t) != 0) c.things.get(t).home = 2 * p;
        return 5 + c.bareTilt(p);
    }

    int has(int p, boolean sure) {
        List<Integer> sets = fits(p);
        if (!sure) return sets.size();
        if (sets.isEmpty()) return 0;
        int all = ~0;
        for (int set : sets) all &= set;
        return all;
    }

    int ask(int p) {
        List<Integer> sets = fits(p);
        if (sets.size() < 2) return NONE;
        int best = NONE;
        int least = 0;
        for (int g = 0; g <= 20; g++) {
            int[] parts = new int[11];
            for (int set : sets) parts[heightWith(p, set, g)]++;
            int greatest = Arrays.stream(parts).max().getAsInt();
            if (best == NONE || greatest < least) {
                best = g;
                least = greatest;
            }
        }
        return best;
    }

    private int ballastHeight(int p, int a, int b, boolean second) {
        int[] loads = {now.load(2 * p) + a * now.step, now.load(2 * p + 1) + b * now.step};
        int tilt = (loads[1] - loads[0]) / now.step;
        tilt = tilt < -5 ? -5 : Math.min(tilt, 5);
        return second ? 5 - tilt - b : 5 + tilt - a;
    }

    int ballast(int p) {
        checkPlank(p);
        int set = 0;
        for (int a = 0; a < 3; a++) {
            for (int b = 0; b < 3; b++) {
                boolean stays = true;
                for (int c = 0; c < 3; c++) {
                    stays &= ballastHeight(p, c, b, false) <= ballastHeight(p, a, b, false);
                    stays &= ballastHeight(p, a, c, true) <= ballastHeight(p, a, b, true);
                }
                if (stays) set |= 1 << (3 * a + b);
            }
        }
        return set;
    }

    int thief() {
        return now.lured(0);
    }

    private List<Integer> taken(int n, int guarded) {
        State c = now.copy();
        List<Integer> worths = new ArrayList<>();
        for (int i = 0; i < n; i++) {
            int t = c.dearest(c.lured(guarded));
            if (t == NONE) continue;
            worths.add(c.things.get(t).worth);
            c.things.get(t).home = NONE;
        }
        return worths;
    }

    int guards(int n, int worth) {
        checkNumber(n, 0, 8);
        checkNumber(worth, 0, 99);
        int best = NONE;
        for (int set = 0; set < 1 << now.houses.size(); set++) {
            int many = Integer.bitCount(set);
            if (many > 3 || best != NONE && many >= Integer.bitCount(best)) continue;
            boolean safe = true;
            for (int w : taken(n, set)) safe &= w <= worth;
            if (safe) best = set;
        }
        return best;
    }

    int loot(int n) {
        checkNumber(n, 0, 10);
        int sum = 0;
        for (int w : taken(n, 0)) sum += w;
        return sum;
    }

    int rent(int h, int n) {
        checkHouse(h);
        checkNumber(n, 0, 100);
        return now.houses.get(h).purse - now.ahead(n).houses.get(h).purse;
    }

    int poor() {
        for (int n = 0; n <= 100; n++) {
            for (House h : now.ahead(n).houses) if (h.purse == 0) return n;
        }
        return NONE;
    }

    int rich() {
        int rich = NONE;
        int most = 0;
        for (int h = 0; h < now.houses.size(); h++) {
            int sum = now.houses.get(h).purse;
            for (Thing t : now.things) sum += t.home == h ? t.worth : 0;
            if (rich == NONE || sum > most) {
                rich = h;
                most = sum;
            }
        }
        return rich;
    }

    int heaviest() {
        int best = NONE;
        for (int t = 0; t < now.things.size(); t++) {
            if (now.things.get(t).home == NONE) continue;
            if (best == NONE || now.things.get(t).weight > now.things.get(best).weight) best = t;
        }
        return best;
    }

    int alike() {
        int n = 0;
        for (int h = 0; h < now.houses.size(); h++) {
            for (int g = 0; g < h; g++) if (now.load(h) == now.load(g) && now.height(h) == now.height(g)) n++;
        }
        return n;
    }

    int ahead(int h, int n, boolean purse) {
        checkHouse(h);
        checkNumber(n, 0, 100);
        State c = now.ahead(n);
        return purse ? c.houses.get(h).purse : c.height(h);
    }

    private State tried(int n, int seed) {
        State c = now.copy();
        c.seed = seed;
        for (int i = 0; i < n; i++) c.week(true);
        return c;
    }

    int trial(int n, boolean broken) {
        checkNumber(n, 0, 60);
        State c = tried(n, now.seed);
        if (!broken) return Integer.bitCount(c.gone());
        int set = 0;
        for (int p = 0; p < c.planks.size(); p++) if (c.planks.get(p).broken) set |= 1 << p;
        return set;
    }

    int span(int n, boolean most) {
        checkNumber(n, 0, 60);
        int[] gone = new int[6];
        for (int seed = 1; seed <= 6; seed++) gone[seed - 1] = Integer.bitCount(tried(n, seed).gone());
        Arrays.sort(gone);
        return most ? gone[5] : gone[0];
    }

    int led(int t, boolean week) {
        checkThing(t);
        int rows = 0;
        int latest = NONE;
        for (Row r : now.log) {
            if (r.thing != t) continue;
            rows++;
            latest = r.week;
        }
        return week ? latest : rows;
    }

    int log(int ago, int what) {
        if (what < 0 || what > 4) throw new NoSuchElementException();
        if (ago < 0 || ago >= now.log.size()) return -2;
        Row r = now.log.get(now.log.size() - 1 - ago);
        return new int[] {r.week, r.thing, r.from, r.to, r.stolen}[what];
    }

    int seed(int n) {
        int was = now.seed;
        now.seed = n;
        return was;
    }

    boolean undo() {
        if (past.isEmpty()) return false;
        now = past.pop();
        return true;
    }

    void image() {
        image = now.copy();
    }

    boolean back() {
        if (image == null) return false;
        now = image.copy();
        past.clear();
        return true;
    }

    int count(int what) {
        int sum = 0;
        switch (what) {
            case 0: return now.planks.size();
            case 1: return now.things.size();
            case 2: return now.texts;
            case 3: return now.law == null ? NONE : now.law.size();
            case 4: return now.week;
            case 5: return now.snow;
            case 6: return now.step;
            case 7: return now.fall;
            case 8: return now.thieves;
            case 9: return now.fee;
            case 10:
                for (int p = 0; p < now.planks.size(); p++) if (now.planks.get(p).broken) sum |= 1 << p;
                return sum;
            case 11: return now.gone();
            case 12:
                for (House h : now.houses) sum += h.purse;
                return sum;
            case 13: return now.log.size();
            case 14: return past.size();
            default: return NONE;
        }
    }
}
