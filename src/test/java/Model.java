import java.math.BigInteger;
import java.util.ArrayList;
import java.util.HashMap;
import java.util.HashSet;
import java.util.List;
import java.util.Map;
import java.util.NoSuchElementException;
import java.util.Set;
import java.util.TreeSet;

/** The document a second time, with trees, fractions and orders told out, and nothing kept between calls. */
final class Model {
    static final Set<String> KEYWORDS = Set.of("person", "costs", "thing", "makes", "with", "not", "and", "or");

    interface Tree {
        int value(int[] steps);
    }

    static final class Fraction implements Comparable<Fraction> {
        final BigInteger above;
        final BigInteger below;

        Fraction(BigInteger a, BigInteger b) {
            BigInteger g = a.gcd(b);
            if (b.signum() < 0) {
                g = g.negate();
            }
            above = a.divide(g);
            below = b.divide(g);
        }

        static Fraction of(long a) {
            return new Fraction(BigInteger.valueOf(a), BigInteger.ONE);
        }

        Fraction plus(Fraction o) {
            return new Fraction(above.multiply(o.below).add(o.above.multiply(below)), below.multiply(o.below));
        }

        Fraction minus(Fraction o) {
            return plus(o.by(-1, 1));
        }

        Fraction by(long a, long b) {
            return new Fraction(above.multiply(BigInteger.valueOf(a)), below.multiply(BigInteger.valueOf(b)));
        }

        @Override
        public int compareTo(Fraction o) {
            return above.multiply(o.below).compareTo(o.above.multiply(below));
        }
    }

    static final class Line {
        Tree tree;
        Set<String> with = new HashSet<>();
    }

    static final class Own {
        Set<Integer> owners = new TreeSet<>();
        int need = 1;

        Own() {
        }

        Own(int bits, int need) {
            for (int p = 0; p < 31; p++) {
                if ((bits >> p & 1) == 1) {
                    owners.add(p);
                }
            }
            this.need = need;
        }

        int bits() {
            int b = 0;
            for (int p : owners) {
                b |= 1 << p;
            }
            return b;
        }
    }

    static final class World {
        List<String> people = new ArrayList<>();
        List<int[]> costs = new ArrayList<>();
        List<String> things = new ArrayList<>();
        List<Line> lines = new ArrayList<>();
        List<Own> now = new ArrayList<>();
        Map<Integer, Own> later = new HashMap<>();
        int bargain;
        int asker;
        int chance;

        World copy() {
            World w = new World();
            w.people = people;
            w.costs = costs;
            w.things = things;
            w.lines = lines;
            w.now = new ArrayList<>(now);
            w.later = new HashMap<>(later);
            w.bargain = bargain;
            w.asker = asker;
            w.chance = chance;
            return w;
        }
    }

    // ---- reading

    static final class Fault extends RuntimeException {
        final int answer;

        Fault(int kind, int place) {
            super(null, null, false, false);
            answer = kind + 16 * place;
        }
    }

    static final class Token {
        final String text;
        final int place;

        Token(String text, int place) {
            this.text = text;
            this.place = place;
        }

        boolean isName() {
            return text.matches("[a-z]{1,8}") && !KEYWORDS.contains(text);
        }

        boolean isNumber() {
            return text.matches("[0-9]{1,4}");
        }
    }

    static List<Token> tokens(String tape) {
        List<Token> found = new ArrayList<>();
        java.util.regex.Matcher m = java.util.regex.Pattern.compile("[a-z]+|[0-9]+|[^ \n]").matcher(tape);
        while (m.find()) {
            found.add(new Token(m.group(), m.start()));
        }
        found.add(new Token("", tape.length()));
        return found;
    }

    static final class Reading {
        final List<Token> tokens;
        final World world = new World();
        int at;

        Reading(String tape) {
            tokens = tokens(tape);
        }

        Token here() {
            return tokens.get(at);
        }

        boolean on(String... texts) {
            for (String t : texts) {
                if (here().text.equals(t)) {
                    return true;
                }
            }
            return false;
        }

        Fault fault(int kind) {
            return new Fault(kind, here().place);
        }

        void expect(String text) {
            if (!on(text)) {
                throw fault(1);
            }
            at++;
        }

        String newName() {
            if (!here().isName()) {
                throw fault(1);
            }
            if (world.people.contains(here().text) || world.things.contains(here().text)) {
                throw fault(3);
            }
            return tokens.get(at++).text;
        }

        World all() {
            while (!on("")) {
                if (on("person")) {
                    if (world.people.size() == 4) {
                        throw fault(5);
                    }
                    at++;
                    person();
                } else if (on("thing")) {
                    if (world.things.size() == 3) {
                        throw fault(5);
                    }
                    at++;
                    String name = newName();
                    expect(";");
                    world.things.add(name);
                    world.now.add(new Own());
                } else if (on("makes")) {
                    if (world.lines.size() == 8) {
                        throw fault(5);
                    }
                    at++;
                    line();
                } else {
                    throw fault(1);
                }
            }
            return world;
        }

        void person() {
            String name = newName();
            expect("costs");
            List<Integer> told = new ArrayList<>();
            told.add(0);
            do {
                if (!here().isNumber()) {
                    throw fault(1);
                }
                int n = Integer.parseInt(here().text);
                if (n > 999) {
                    throw fault(4);
                }
                told.add(n);
                at++;
            } while (told.size() < 4 && !on(";"));
            expect(";");
            world.people.add(name);
            world.costs.add(told.stream().mapToInt(i -> i).toArray());
        }

        void line() {
            Line line = new Line();
            line.tree = e(0);
            expect("with");
            do {
                if (!here().isName()) {
                    throw fault(1);
                }
                if (!world.people.contains(here().text) && !world.things.contains(here().text)) {
                    throw fault(2);
                }
                if (!line.with.add(here().text)) {
                    throw fault(3);
                }
                at++;
            } while (!on(";"));
            expect(";");
            world.lines.add(line);
        }

        Tree e(int within) {
            Tree left = test(within);
            while (on("and", "or")) {
                boolean and = on("and");
                at++;
                Tree a = left;
                Tree b = test(within);
                left = and ? s -> a.value(s) != 0 & b.value(s) != 0 ? 1 : 0 : s -> a.value(s) != 0 | b.value(s) != 0 ? 1 : 0;
            }
            return left;
        }

        Tree test(int within) {
            Tree a = sum(within);
            if (!on("<", "=")) {
                return a;
            }
            boolean less = on("<");
            at++;
            Tree b = sum(within);
            return less ? s -> a.value(s) < b.value(s) ? 1 : 0 : s -> a.value(s) == b.value(s) ? 1 : 0;
        }

        Tree sum(int within) {
            Tree left = product(within);
            while (on("+", "-")) {
                int sign = on("+") ? 1 : -1;
                at++;
                Tree a = left;
                Tree b = product(within);
                left = s -> a.value(s) + sign * b.value(s);
            }
            return left;
        }

        Tree product(int within) {
            Tree left = part(within);
            while (on("*")) {
                at++;
                Tree a = left;
                Tree b = part(within);
                left = s -> a.value(s) * b.value(s);
            }
            return left;
        }

        Tree part(int within) {
            Token t = here();
            boolean opens = on("not", "(");
            if (!opens && !t.isNumber() && !t.isName()) {
                throw fault(1);
            }
            if (t.isName() && !world.people.contains(t.text)) {
                throw fault(2);
            }
            if (within == 5) {
                throw fault(5);
            }
            at++;
            if (t.isNumber()) {
                int n = Integer.parseInt(t.text);
                return s -> n;
            }
            if (t.isName()) {
                int p = world.people.indexOf(t.text);
                return s -> s[p];
            }
            if (t.text.equals("not")) {
                Tree a = part(within + 1);
                return s -> a.value(s) == 0 ? 1 : 0;
            }
            Tree a = e(within + 1);
            expect(")");
            return a;
        }
    }

    // ---- state

    private final StringBuilder tape = new StringBuilder();
    private World w = new World();
    private final World[] marks = new World[4];
    private int scaledLine = -1;
    private int scale = 10;

    private static NoSuchElementException none() {
        return new NoSuchElementException();
    }

    private int n() {
        return w.people.size();
    }

    private boolean isPerson(int p) {
        return p >= 0 && p < n();
    }

    private boolean isThing(int t) {
        return t >= 0 && t < w.things.size();
    }

    private boolean isSet(int s, int size) {
        return s >= 0 && s < 1 << size;
    }

    private List<Integer> rows() {
        List<Integer> all = new ArrayList<>();
        for (int y = 0; y < 256; y++) {
            if (steps(y) != null) {
                all.add(y);
            }
        }
        return all;
    }

    private int[] steps(int pains) {
        if (pains < 0) {
            return null;
        }
        int rest = pains;
        int[] s = new int[n()];
        for (int p = 0; p < n(); p++) {
            s[p] = rest % 4;
            rest /= 4;
            if (s[p] >= w.costs.get(p).length) {
                return null;
            }
        }
        return rest == 0 ? s : null;
    }

    private int number(int[] steps) {
        int y = 0;
        for (int p = steps.length - 1; p >= 0; p--) {
            y = y * 4 + steps[p];
        }
        return y;
    }

    private int worthOf(int people, int things, int[] steps) {
        BigInteger sum = BigInteger.ZERO;
        Set<String> there = new HashSet<>();
        for (int p = 0; p < n(); p++) {
            if ((people >> p & 1) == 1) {
                there.add(w.people.get(p));
            }
        }
        for (int t = 0; t < w.things.size(); t++) {
            if ((things >> t & 1) == 1) {
                there.add(w.things.get(t));
            }
        }
        for (int i = 0; i < w.lines.size(); i++) {
            Line line = w.lines.get(i);
            if (there.containsAll(line.with)) {
                BigInteger v = BigInteger.valueOf(line.tree.value(steps));
                if (i == scaledLine) {
                    v = v.multiply(BigInteger.valueOf(scale)).divide(BigInteger.TEN);
                }
                sum = sum.add(v);
            }
        }
        BigInteger most = BigInteger.valueOf(99999);
        return sum.min(most).max(most.negate()).intValue();
    }

    private int hasBy(List<Own> owning, int people) {
        int things = 0;
        for (int t = 0; t < owning.size(); t++) {
            Own o = owning.get(t);
            int there = 0;
            for (int p : o.owners) {
                there += people >> p & 1;
            }
            boolean all = people == (1 << n()) - 1;
            if (o.owners.isEmpty() ? all : there >= o.need) {
                things |= 1 << t;
            }
        }
        return things;
    }

    private int makesBy(List<Own> owning, int people, int[] steps) {
        return worthOf(people, hasBy(owning, people), steps);
    }

    private static void orders(List<Integer> done, List<Integer> left, List<List<Integer>> all) {
        if (left.isEmpty()) {
            all.add(done);
        }
        for (Integer p : left) {
            List<Integer> d = new ArrayList<>(done);
            d.add(p);
            List<Integer> l = new ArrayList<>(left);
            l.remove(p);
            orders(d, l, all);
        }
    }

    private Fraction shareIn(List<Own> owning, int person, int[] steps) {
        int all = (1 << n()) - 1;
        if (w.bargain == 0) {
            List<Integer> people = new ArrayList<>();
            for (int p = 0; p < n(); p++) {
                people.add(p);
            }
            List<List<Integer>> orders = new ArrayList<>();
            orders(new ArrayList<>(), people, orders);
            long sum = 0;
            for (List<Integer> order : orders) {
                int ahead = 0;
                for (int p : order) {
                    if (p == person) {
                        break;
                    }
                    ahead |= 1 << p;
                }
                sum += makesBy(owning, ahead | 1 << person, steps) - makesBy(owning, ahead, steps);
            }
            return Fraction.of(sum).by(1, orders.size());
        }
        long total = makesBy(owning, all, steps);
        if (w.bargain == 1) {
            for (int p = 0; p < n(); p++) {
                total -= makesBy(owning, 1 << p, steps);
            }
            return Fraction.of(makesBy(owning, 1 << person, steps)).plus(Fraction.of(total).by(1, n()));
        }
        if (person != w.asker) {
            return Fraction.of(makesBy(owning, 1 << person, steps));
        }
        for (int p = 0; p < n(); p++) {
            if (p != w.asker) {
                total -= makesBy(owning, 1 << p, steps);
            }
        }
        return Fraction.of(total);
    }

    private Fraction shareBy(List<Own> owning, int person, int[] steps) {
        List<Own> later = new ArrayList<>(owning);
        for (Map.Entry<Integer, Own> e : w.later.entrySet()) {
            later.set(e.getKey(), e.getValue());
        }
        return shareIn(owning, person, steps).by(10 - w.chance, 10).plus(shareIn(later, person, steps).by(w.chance, 10));
    }

    interface Having {
        Fraction of(int person, int[] steps);
    }

    private Having having(List<Own> owning) {
        return (p, s) -> shareBy(owning, p, s).minus(Fraction.of(w.costs.get(p)[s[p]]));
    }

    private int wouldBy(Having having, int person, int[] steps) {
        int best = -1;
        Fraction most = null;
        for (int s = 0; s < w.costs.get(person).length; s++) {
            int[] there = steps.clone();
            there[person] = s;
            Fraction got = having.of(person, there);
            if (most == null || got.compareTo(most) > 0) {
                most = got;
                best = s;
            }
        }
        return best;
    }

    private int lastRounds;

    private int[] turnsBy(Having having, int fixed, int step) {
        int[] now = new int[n()];
        if (fixed >= 0) {
            now[fixed] = step;
        }
        for (int round = 1; round <= 30; round++) {
            boolean changed = false;
            for (int p = 0; p < n(); p++) {
                if (p == fixed) {
                    continue;
                }
                int[] there = now.clone();
                there[p] = wouldBy(having, p, now);
                if (having.of(p, there).compareTo(having.of(p, now)) > 0) {
                    now = there;
                    changed = true;
                }
            }
            if (!changed) {
                lastRounds = round;
                return now;
            }
        }
        return null;
    }

    private int goodBy(int[] steps) {
        int good = makesBy(w.now, (1 << n()) - 1, steps);
        for (int p = 0; p < n(); p++) {
            good -= w.costs.get(p)[steps[p]];
        }
        return good;
    }

    private Integer reachedBy(List<Own> owning) {
        int[] y = turnsBy(having(owning), -1, 0);
        return y == null ? null : goodBy(y);
    }

    private List<List<Own>> plain() {
        List<List<Own>> all = new ArrayList<>();
        if (n() == 0) {
            return all;
        }
        int count = (int) Math.pow(n() + 2, w.things.size());
        for (int i = 0; i < count; i++) {
            List<Own> owning = new ArrayList<>();
            int rest = i;
            for (int t = 0; t < w.things.size(); t++) {
                int digit = rest % (n() + 2);
                rest /= n() + 2;
                owning.add(digit < n() ? new Own(1 << digit, 1) : digit == n() ? new Own((1 << n()) - 1, n()) : new Own());
            }
            all.add(owning);
        }
        return all;
    }

    private List<Integer> allReached() {
        List<Integer> all = new ArrayList<>();
        for (List<Own> owning : plain()) {
            all.add(reachedBy(owning));
        }
        return all;
    }

    // ---- the face

    int feed(long a, long b, long c) {
        for (long v : new long[] {a, b, c}) {
            for (int i = 7; i >= 0; i--) {
                int sign = (int) ((v >>> 8 * i) & 0xff);
                if ((sign == 10 || sign > 31 && sign < 127) && tape.length() < 1000) {
                    tape.append((char) sign);
                }
            }
        }
        return tape.length();
    }

    int works() {
        String text = tape.toString();
        tape.setLength(0);
        try {
            w = new Reading(text).all();
            return 0;
        } catch (Fault f) {
            return f.answer;
        }
    }

    int cost(int person, int step) {
        if (!isPerson(person) || step < 0 || step >= w.costs.get(person).length) {
            return -1;
        }
        return w.costs.get(person)[step];
    }

    int worth(int people, int things, int pains) {
        if (!isSet(people, n()) || !isSet(things, w.things.size()) || steps(pains) == null) {
            throw none();
        }
        return worthOf(people, things, steps(pains));
    }

    private boolean okOwn(int thing, int owners, int need) {
        if (!isThing(thing) || !isSet(owners, n())) {
            return false;
        }
        return owners == 0 ? need == 1 : need >= 1 && need <= new Own(owners, 1).owners.size();
    }

    boolean own(int thing, int owners, int need) {
        if (!okOwn(thing, owners, need)) {
            return false;
        }
        w.now.set(thing, new Own(owners, need));
        return true;
    }

    int owner(int thing, int what) {
        if (!isThing(thing) || what < 0 || what > 1) {
            return -1;
        }
        return what == 0 ? w.now.get(thing).bits() : w.now.get(thing).need;
    }

    boolean later(int thing, int owners, int need) {
        if (!okOwn(thing, owners, need)) {
            return false;
        }
        w.later.put(thing, new Own(owners, need));
        return true;
    }

    boolean chance(int ten) {
        if (ten < 0 || ten > 10) {
            return false;
        }
        w.chance = ten;
        return true;
    }

    int has(int people) {
        return isSet(people, n()) ? hasBy(w.now, people) : -1;
    }

    int makes(int people, int pains) {
        if (!isSet(people, n()) || steps(pains) == null) {
            throw none();
        }
        return makesBy(w.now, people, steps(pains));
    }

    boolean bargain(int kind, int asker) {
        if (kind < 0 || kind > 2 || !isPerson(asker)) {
            return false;
        }
        w.bargain = kind;
        w.asker = asker;
        return true;
    }

    long share(int person, int pains, int what) {
        if (!isPerson(person) || steps(pains) == null || what < 0 || what > 1) {
            throw none();
        }
        Fraction f = shareBy(w.now, person, steps(pains));
        return what == 0 ? f.above.longValueExact() : f.below.longValueExact();
    }

    int would(int person, int pains) {
        if (!isPerson(person) || steps(pains) == null) {
            return -1;
        }
        return wouldBy(having(w.now), person, steps(pains));
    }

    int isRest(int pains) {
        int[] s = steps(pains);
        if (n() == 0 || s == null) {
            return -1;
        }
        Having h = having(w.now);
        for (int p = 0; p < n(); p++) {
            for (int step = 0; step < w.costs.get(p).length; step++) {
                int[] there = s.clone();
                there[p] = step;
                if (h.of(p, there).compareTo(h.of(p, s)) > 0) {
                    return 0;
                }
            }
        }
        return 1;
    }

    int rest(int what) {
        if (n() == 0 || what < 0 || what > 2) {
            throw none();
        }
        int[] y = turnsBy(having(w.now), -1, 0);
        if (y == null) {
            throw none();
        }
        return what == 0 ? number(y) : what == 1 ? lastRounds : goodBy(y);
    }

    int rests(int what) {
        if (n() == 0 || what < 0 || what > 2) {
            return -1;
        }
        List<Integer> found = new ArrayList<>();
        for (int y : rows()) {
            if (isRest(y) == 1) {
                found.add(y);
            }
        }
        if (what == 0) {
            return found.size();
        }
        int answer = -1;
        for (int y : found) {
            int sign = what == 1 ? -1 : 1;
            if (answer < 0 || sign * goodBy(steps(y)) > sign * goodBy(steps(answer))) {
                answer = y;
            }
        }
        return answer;
    }

    int good(int pains) {
        if (n() == 0 || steps(pains) == null) {
            throw none();
        }
        return goodBy(steps(pains));
    }

    int best(int what) {
        if (n() == 0 || what < 0 || what > 1) {
            throw none();
        }
        int answer = -1;
        for (int y : rows()) {
            if (answer < 0 || goodBy(steps(y)) > goodBy(steps(answer))) {
                answer = y;
            }
        }
        return what == 0 ? answer : goodBy(steps(answer));
    }

    int lost(int pains) {
        if (n() == 0 || steps(pains) == null) {
            return -1;
        }
        return best(1) - goodBy(steps(pains));
    }

    int reached(int owning) {
        List<List<Own>> all = plain();
        if (owning < 0 || owning >= all.size()) {
            throw none();
        }
        Integer r = reachedBy(all.get(owning));
        if (r == null) {
            throw none();
        }
        return r;
    }

    private static int indexOfGreatest(List<Integer> all) {
        int found = -1;
        for (int i = 0; i < all.size(); i++) {
            if (all.get(i) != null && (found < 0 || all.get(i) > all.get(found))) {
                found = i;
            }
        }
        return found;
    }

    int first(int what) {
        if (n() == 0 || what < 0 || what > 2) {
            return -1;
        }
        List<Integer> all = allReached();
        if (what == 2) {
            return (int) all.stream().filter(r -> r == null).count();
        }
        int i = indexOfGreatest(all);
        if (i < 0 || what == 0) {
            return i;
        }
        return (int) all.stream().filter(r -> all.get(i).equals(r)).count();
    }

    int gap() {
        if (n() == 0) {
            return -1;
        }
        List<Integer> all = allReached();
        int i = indexOfGreatest(all);
        Integer now = reachedBy(w.now);
        return i < 0 || now == null ? -1 : all.get(i) - now;
    }

    int joint(int what) {
        if (n() == 0 || what < 0 || what > 1) {
            return -1;
        }
        List<Own> owning = new ArrayList<>();
        for (int t = 0; t < w.things.size(); t++) {
            owning.add(new Own((1 << n()) - 1, n()));
        }
        Integer j = reachedBy(owning);
        if (j == null) {
            return -1;
        }
        return (int) allReached().stream().filter(r -> r != null && (what == 0 ? r < j : r > j)).count();
    }

    int apart(int a, int b) {
        if (!isThing(a) || !isThing(b) || a == b) {
            return -1;
        }
        for (int y : rows()) {
            for (int people = 0; people < 1 << n(); people++) {
                for (int things = 0; things < 1 << w.things.size(); things++) {
                    int with = worthOf(people, things, steps(y));
                    if ((things >> b & 1) == 0 && worthOf(people, things | 1 << a, steps(y)) > with) {
                        return 0;
                    }
                    if ((things >> a & 1) == 0 && worthOf(people, things | 1 << b, steps(y)) > with) {
                        return 0;
                    }
                }
            }
        }
        return 1;
    }

    int oneHand(int a, int b) {
        if (n() == 0 || !isThing(a) || !isThing(b) || a == b) {
            throw none();
        }
        List<Integer> all = allReached();
        Integer same = null;
        Integer others = null;
        for (int i = 0; i < all.size(); i++) {
            int base = n() + 2;
            int[] digits = {i % base, i / base % base, i / base / base};
            Integer r = all.get(i);
            if (r != null && digits[a] == digits[b]) {
                same = same == null ? r : Math.max(same, r);
            } else if (r != null) {
                others = others == null ? r : Math.max(others, r);
            }
        }
        if (same == null || others == null) {
            throw none();
        }
        return same - others;
    }

    int written(int person, int step) {
        if (cost(person, step) < 0) {
            throw none();
        }
        int[] y = turnsBy(having(w.now), person, step);
        if (y == null) {
            throw none();
        }
        return goodBy(y);
    }

    int writing(int person, int what) {
        if (!isPerson(person) || what < 0 || what > 1) {
            throw none();
        }
        Integer now = reachedBy(w.now);
        int best = -1;
        int most = 0;
        for (int step = 0; step < w.costs.get(person).length; step++) {
            int[] y = turnsBy(having(w.now), person, step);
            if (y != null && (best < 0 || goodBy(y) > most)) {
                best = step;
                most = goodBy(y);
            }
        }
        if (now == null || best < 0) {
            throw none();
        }
        return what == 0 ? best : most - now;
    }

    private List<Own> nowBut(int thing, Own own) {
        List<Own> o = new ArrayList<>(w.now);
        o.set(thing, own);
        return o;
    }

    private Fraction gets(int person, int thing, int buyer, int price) {
        Set<Integer> sellers = w.now.get(thing).owners;
        Fraction f = Fraction.of(person == buyer ? -price : 0);
        return sellers.contains(person) ? f.plus(Fraction.of(price).by(1, sellers.size())) : f;
    }

    private boolean bought(int thing, int buyer, int price, int[] s) {
        Fraction with = shareBy(nowBut(thing, new Own(1 << buyer, 1)), buyer, s).plus(gets(buyer, thing, buyer, price));
        return with.compareTo(shareBy(w.now, buyer, s)) > 0;
    }

    private int[] rightTurns(int thing, int buyer, int price) {
        List<Own> bought = nowBut(thing, new Own(1 << buyer, 1));
        return turnsBy((p, s) -> bought(thing, buyer, price, s)
            ? having(bought).of(p, s).plus(gets(p, thing, buyer, price)) : having(w.now).of(p, s), -1, 0);
    }

    int right(int thing, int buyer, int price, int what) {
        if (!isThing(thing) || !isPerson(buyer) || price < 0 || price > 9999 || what < 0 || what > 2) {
            throw none();
        }
        int[] y = rightTurns(thing, buyer, price);
        if (y == null) {
            throw none();
        }
        return what == 0 ? number(y) : what == 1 ? goodBy(y) : bought(thing, buyer, price, y) ? 1 : 0;
    }

    int rightPrice(int thing, int buyer, int most, int what) {
        if (!isThing(thing) || !isPerson(buyer) || most < 0 || most > 60 || what < 0 || what > 1) {
            throw none();
        }
        int best = -1;
        int greatest = 0;
        for (int price = 0; price <= most; price++) {
            int[] y = rightTurns(thing, buyer, price);
            if (y != null && (best < 0 || goodBy(y) > greatest)) {
                best = price;
                greatest = goodBy(y);
            }
        }
        if (best < 0) {
            throw none();
        }
        return what == 0 ? best : greatest;
    }

    int lender(int person, int thing, int sum, int what) {
        if (!isThing(thing) || !isPerson(person) || sum < 0 || sum > 9999 || what < 0 || what > 2) {
            throw none();
        }
        List<Own> bare = nowBut(thing, new Own());
        Having h = (p, s) -> {
            boolean paid = shareBy(w.now, person, s).compareTo(Fraction.of(sum)) >= 0;
            Fraction f = having(paid ? w.now : bare).of(p, s);
            return paid && p == person ? f.minus(Fraction.of(sum)) : f;
        };
        int[] y = turnsBy(h, -1, 0);
        if (y == null) {
            throw none();
        }
        boolean paid = shareBy(w.now, person, y).compareTo(Fraction.of(sum)) >= 0;
        return what == 0 ? number(y) : what == 1 ? goodBy(y) : paid ? 1 : 0;
    }

    int hands() {
        if (n() == 0) {
            return -1;
        }
        int bits = 0;
        for (int p = 0; p < n(); p++) {
            int person = p;
            if (w.now.stream().noneMatch(o -> o.owners.contains(person))) {
                bits |= 1 << p;
            }
        }
        return bits;
    }

    int leaving(int person, int pains) {
        if (!isPerson(person) || steps(pains) == null) {
            throw none();
        }
        int all = (1 << n()) - 1;
        return makesBy(w.now, all, steps(pains)) - makesBy(w.now, all - (1 << person), steps(pains));
    }

    private int firstOwner(int line, int thing, int m) {
        scaledLine = line;
        scale = m;
        List<Integer> all = new ArrayList<>();
        for (int p = 0; p < n(); p++) {
            all.add(reachedBy(nowBut(thing, new Own(1 << p, 1))));
        }
        scaledLine = -1;
        return indexOfGreatest(all);
    }

    int edge(int line, int thing, int what) {
        if (line < 0 || line >= w.lines.size() || !isThing(thing) || what < 0 || what > 1) {
            return -1;
        }
        int at10 = firstOwner(line, thing, 10);
        if (at10 < 0) {
            return -1;
        }
        for (int m = what == 0 ? 11 : 9; m >= 0 && m <= 40; m += what == 0 ? 1 : -1) {
            int there = firstOwner(line, thing, m);
            if (there >= 0 && there != at10) {
                return m;
            }
        }
        return -1;
    }

    boolean mark(int mark, boolean back) {
        if (mark < 0 || mark > 3 || back && marks[mark] == null) {
            return false;
        }
        if (back) {
            w = marks[mark].copy();
        } else {
            marks[mark] = w.copy();
        }
        return true;
    }

    int count(int what) {
        switch (what) {
            case 0:
                return n();
            case 1:
                return w.things.size();
            case 2:
                return w.lines.size();
            case 3:
                return plain().size();
            case 4:
                return n() == 0 ? 0 : rows().size();
            case 5:
                return tape.length();
            default:
                return -1;
        }
    }
}
