import java.util.NoSuchElementException;
import java.util.Random;

/** Runs of at most 512 calls drawn by a fixed seed, answered by the program and by the Model. */
public final class ModelTest {
    static final int MOST_CALLS = 512;
    static final int RUNS = 900;
    static final String[] NAMES = {"a", "bo", "cy", "potter", "abcdefgh", "kiln", "clay", "x", "withx", "nota"};

    final Random random;
    final WhoseKiln program = new WhoseKiln();
    final Model model = new Model();
    final StringBuilder told = new StringBuilder();
    int people;
    int things;
    int calls;

    ModelTest(long seed) {
        random = new Random(seed);
    }

    public static void main(String[] args) {
        int runs = args.length > 0 ? Integer.parseInt(args[0]) : RUNS;
        long base = args.length > 1 ? Long.parseLong(args[1]) : 7;
        for (int run = 0; run < runs; run++) {
            ModelTest test = new ModelTest(base * 1000003 + run);
            if (!test.run()) {
                System.out.println("run " + run + " of base " + base + " differs:\n" + test.told);
                System.exit(1);
            }
        }
        System.out.println(runs + " runs answered as by the model");
    }

    boolean run() {
        boolean whole = random.nextInt(15) == 0;
        int size = whole ? 4 : random.nextInt(3) == 0 ? 2 : 1;
        boolean small = whole || random.nextInt(4) != 0;
        for (int w = 0; w < size; w++) {
            if (!load(text(small))) {
                return false;
            }
            for (int t = 0; t < things; t++) {
                if (!call(2) || random.nextInt(3) == 0 && !call(5)) {
                    return false;
                }
            }
            int most = whole && w == size - 1 ? MOST_CALLS : small ? 60 : 12;
            for (int c = 0; c < most && calls < MOST_CALLS; c++) {
                if (!call(random.nextInt(40))) {
                    return false;
                }
            }
        }
        return true;
    }

    // ---- texts

    String pick(String... from) {
        return from[random.nextInt(from.length)];
    }

    String text(boolean small) {
        people = random.nextInt(25) == 0 ? 0 : 1 + random.nextInt(small ? 3 : 4);
        things = random.nextInt(9) == 0 ? 0 : 1 + random.nextInt(small ? 2 : 3);
        StringBuilder s = new StringBuilder();
        int p = 0;
        int t = 0;
        while (p < people || t < things) {
            if (p < people && (t == things || random.nextBoolean())) {
                s.append("person ").append(NAMES[p++]).append(" costs");
                int steps = 1 + random.nextInt(3);
                for (int i = 0; i < steps; i++) {
                    s.append(' ').append(random.nextInt(9) == 0 ? random.nextInt(1000) : random.nextInt(12));
                }
                s.append("; ");
            } else {
                s.append("thing ").append(NAMES[5 + t++]).append(pick(";", " ;\n"));
            }
        }
        int lines = people + things == 0 ? 0 : random.nextInt(4) == 0 ? random.nextInt(9) : 2 + random.nextInt(4);
        for (int i = 0; i < lines; i++) {
            s.append("makes ").append(random.nextInt(3) == 0 ? expression(0) : useful()).append(" with");
            int with = 1 + random.nextInt((1 << people + things) - 1);
            if (people > 0 && random.nextInt(4) != 0) {
                with = 1 << random.nextInt(people) | (random.nextInt(4) == 0 ? 1 << random.nextInt(people) : 0);
                with |= random.nextInt(1 << things) << people;
            }
            for (int j = 0; j < people + things; j++) {
                if ((with >> j & 1) == 1) {
                    s.append(' ').append(j < people ? NAMES[j] : NAMES[5 + j - people]);
                }
            }
            s.append(';');
        }
        return random.nextInt(5) == 0 ? corrupted(s.toString()) : s.toString();
    }

    String useful() {
        switch (random.nextInt(6)) {
            case 0:
                return (10 + random.nextInt(30)) + "*(" + person() + "=" + person() + ")";
            case 1:
                return (10 + random.nextInt(30)) + "*(" + person() + "<" + person() + ")";
            case 2:
                return person() + "*" + person() + "*" + (1 + random.nextInt(12));
            default:
                return (1 + random.nextInt(30)) + "*" + person();
        }
    }

    String expression(int within) {
        switch (random.nextInt(14)) {
            case 0:
                return part(within) + pick("<", "=") + part(within);
            case 1:
                return part(within) + pick("+", "-") + part(within) + pick("=", "<") + part(within) + "*" + part(within);
            case 2:
                return part(within) + pick(" and ", " or ") + part(within) + pick(" and ", " or ") + part(within);
            case 3:
                return "not " + part(within + 1) + "*" + part(within);
            case 4:
                return random.nextInt(4) == 0 ? "9999*9999*9999*" + part(within) : part(within);
            case 5:
            case 6:
                return random.nextInt(40) + "*(" + expression(within + 1) + ")";
            case 7:
                return person() + "=" + person();
            case 8:
                return random.nextInt(30) + "*(" + person() + "=" + person() + ")";
            default:
                return random.nextInt(25) + "*" + person() + pick("+", "-") + random.nextInt(20) + "*" + part(within);
        }
    }

    String person() {
        return people == 0 ? "" + random.nextInt(4) : NAMES[random.nextInt(people)];
    }

    String part(int within) {
        int kind = random.nextInt(8);
        if (kind < 3) {
            return person();
        }
        if (kind < 6 || within > 4 && random.nextInt(5) != 0) {
            return "" + random.nextInt(20);
        }
        return kind == 6 ? "not " + part(within + 1) : "(" + expression(within + 1) + ")";
    }

    String corrupted(String s) {
        StringBuilder b = new StringBuilder(s);
        int at = random.nextInt(b.length() + 1);
        String[] junk = {";", "(", ")", " with ", " person ", " thing ", " makes ", " costs ", " not ", " and ", "=", "<",
            "12345", "1000", "A", "$", " kiln ", " a ", " nobody ", "abcdefghi", "*", " not not not not not not 1", "((((((", "-", "\n",
            "; person dd costs 1; person ee costs 2; person ff costs 3;", "; thing tt; thing uu; thing vv; thing ww;",
            "; makes 1 with a; makes 1 with a; makes 1 with a; makes 1 with a; makes 1 with a; makes 1 with a; makes 1 with a; "
                + "makes 1 with a; makes 1 with a;"};
        switch (random.nextInt(7)) {
            case 0:
                b.insert(at, pick(junk));
                break;
            case 4:
            case 5:
            case 6:
                return otherToken(s);
            case 1:
                b.delete(at, Math.min(b.length(), at + 1 + random.nextInt(6)));
                break;
            case 2:
                int[] ends = b.chars().filter(c -> c == ';').toArray();
                int place = ends.length == 0 ? 0 : b.indexOf(";", at) < 0 ? b.length() : b.indexOf(";", at);
                b.insert(place, pick(junk));
                break;
            default:
                b.setLength(at);
        }
        return b.toString();
    }

    String otherToken(String s) {
        java.util.List<Model.Token> tokens = Model.tokens(s);
        Model.Token t = tokens.get(random.nextInt(tokens.size()));
        Model.Token o = tokens.get(random.nextInt(tokens.size()));
        String put = t.isNumber() ? pick("999", "1000", "9999", "0000", "00001", "(", "kiln") : random.nextInt(3) == 0 ? " not " : " " + o.text + " ";
        int end = random.nextBoolean() ? t.place : t.place + t.text.length();
        return s.substring(0, t.place) + put + s.substring(end);
    }

    boolean load(String text) {
        byte[] raw = new byte[text.length() + 40 + 24];
        int used = 0;
        for (int i = 0; i < text.length() && used < raw.length - 24; i++) {
            if (used < text.length() + 30 && random.nextInt(30) == 0) {
                raw[used++] = (byte) pick("\0", "\177", "\t", "\r").charAt(0);
            }
            if (used < text.length() + 30 && random.nextInt(40) == 0) {
                raw[used++] = (byte) (128 + random.nextInt(128));
            }
            raw[used++] = (byte) text.charAt(i);
        }
        for (int i = 0; i < used; i += 24) {
            long[] v = new long[3];
            for (int j = 0; j < 24; j++) {
                v[j / 8] = v[j / 8] << 8 | raw[i + j] & 255;
            }
            if (!same("feed", v[0] + "L", v[1] + "L", v[2] + "L", program.feed(v[0], v[1], v[2]), model.feed(v[0], v[1], v[2]))) {
                return false;
            }
        }
        told.append(text).append('\n');
        return same("works", "", "", "", program.works(), model.works());
    }

    boolean same(String name, Object a, Object b, Object c, long got, long due) {
        calls++;
        told.append(name).append('(').append(a).append(", ").append(b).append(", ").append(c).append(") = ").append(got);
        if (got != due) {
            told.append(" but the model: ").append(due);
        }
        told.append('\n');
        return got == due;
    }

    // ---- calls

    int odd(int value) {
        switch (random.nextInt(200)) {
            case 0:
                return -1;
            case 1:
                return value + 1;
            case 2:
                return random.nextInt();
            case 3:
                return Integer.MAX_VALUE;
            case 4:
                return Integer.MIN_VALUE;
            default:
                return value;
        }
    }

    int person_() {
        return odd(random.nextInt(Math.max(1, people)));
    }

    int thing() {
        return odd(random.nextInt(Math.max(1, things)));
    }

    int set() {
        return odd(random.nextInt(1 << people));
    }

    int pains() {
        int y = 0;
        for (int p = 0; p < people; p++) {
            y |= random.nextInt(1 + Math.max(1, model.count(4) > 30 ? 3 : 2)) << 2 * p;
        }
        if (random.nextInt(3) == 0) {
            return odd(random.nextInt(256));
        }
        for (int p = 0; p < people; p++) {
            int top = 0;
            while (top < 3 && model.cost(p, top + 1) >= 0) {
                top++;
            }
            if ((y >> 2 * p & 3) > top) {
                y &= ~(3 << 2 * p);
            }
        }
        return odd(y);
    }

    int what(int most) {
        return odd(random.nextInt(most + 1));
    }

    interface Call {
        long answer();
    }

    static String tell(Call c) {
        try {
            return "" + c.answer();
        } catch (NoSuchElementException e) {
            return e.getClass() == NoSuchElementException.class ? "throws NoSuchElementException" : "throws " + e;
        }
    }

    boolean agree(String call, Call a, Call b) {
        calls++;
        String got;
        try {
            got = tell(a);
        } catch (RuntimeException e) {
            got = "throws " + e;
        }
        String due = tell(b);
        told.append(call).append(" = ").append(got);
        if (!got.equals(due)) {
            told.append(" but the model: ").append(due);
        }
        told.append('\n');
        return got.equals(due);
    }

    boolean call(int which) {
        WhoseKiln x = program;
        Model m = model;
        int p = person_();
        int t = thing();
        int u = thing();
        int s = set();
        int y = pains();
        int need = odd(1 + random.nextInt(Math.max(1, Integer.bitCount(s))));
        int w1 = what(1);
        int w2 = what(2);
        int price = odd(random.nextInt(8) == 0 ? random.nextInt(10000) : random.nextInt(40));
        int most = odd(random.nextInt(61));
        int k = odd(random.nextInt(4));
        boolean back = random.nextBoolean();
        int step = odd(random.nextInt(4));
        int ten = odd(random.nextInt(11));
        int kind = odd(random.nextInt(3));
        int ts = odd(random.nextInt(1 << things));
        int plain = odd(random.nextInt(Math.max(1, m.count(3))));
        int line = odd(random.nextInt(Math.max(1, m.count(2))));
        String row = " p" + p + " t" + t + " u" + u + " s" + s + " y" + y + " need" + need + " w" + w1 + "/" + w2 + " price" + price
            + " most" + most + " k" + k + back + " step" + step + " ten" + ten + " kind" + kind + " ts" + ts + " plain" + plain + " line" + line;
        switch (which) {
            case 0:
                return agree("cost" + row, () -> x.cost(p, step), () -> m.cost(p, step));
            case 1:
                return agree("worth" + row, () -> x.worth(s, ts, y), () -> m.worth(s, ts, y));
            case 2:
            case 3:
                return agree("own" + row, () -> x.own(t, s, need) ? 1 : 0, () -> m.own(t, s, need) ? 1 : 0);
            case 4:
                return agree("owner" + row, () -> x.owner(t, w1), () -> m.owner(t, w1));
            case 5:
                return agree("later" + row, () -> x.later(t, s, need) ? 1 : 0, () -> m.later(t, s, need) ? 1 : 0);
            case 6:
                return agree("chance" + row, () -> x.chance(ten) ? 1 : 0, () -> m.chance(ten) ? 1 : 0);
            case 7:
                return agree("has" + row, () -> x.has(s), () -> m.has(s));
            case 8:
                return agree("makes" + row, () -> x.makes(s, y), () -> m.makes(s, y));
            case 9:
                return agree("bargain" + row, () -> x.bargain(kind, p) ? 1 : 0, () -> m.bargain(kind, p) ? 1 : 0);
            case 10:
            case 11:
                return agree("share" + row, () -> x.share(p, y, w1), () -> m.share(p, y, w1));
            case 12:
                return agree("would" + row, () -> x.would(p, y), () -> m.would(p, y));
            case 13:
                return agree("isRest" + row, () -> x.isRest(y), () -> m.isRest(y));
            case 14:
            case 15:
                return agree("rest" + row, () -> x.rest(w2), () -> m.rest(w2));
            case 16:
                return agree("rests" + row, () -> x.rests(w2), () -> m.rests(w2));
            case 17:
                return agree("good" + row, () -> x.good(y), () -> m.good(y));
            case 18:
                return agree("best" + row, () -> x.best(w1), () -> m.best(w1));
            case 19:
                return agree("lost" + row, () -> x.lost(y), () -> m.lost(y));
            case 20:
                return agree("reached" + row, () -> x.reached(plain), () -> m.reached(plain));
            default:
                return callMore(which, row, new int[] {p, t, u, s, y, w1, w2, price, most, k, step, line}, back);
        }
    }

    boolean callMore(int which, String row, int[] v, boolean back) {
        WhoseKiln x = program;
        Model m = model;
        int p = v[0];
        int t = v[1];
        int u = v[2];
        int y = v[4];
        int w1 = v[5];
        int w2 = v[6];
        int price = v[7];
        int most = v[8];
        int k = v[9];
        int step = v[10];
        int line = v[11];
        // The model is slow where there are many plain ownings.
        boolean heavy = m.count(3) > 70 && random.nextInt(4) != 0;
        switch (heavy && (which == 21 || which == 22 || which == 23 || which == 25) ? 99 : which) {
            case 21:
                return agree("first" + row, () -> x.first(w2), () -> m.first(w2));
            case 22:
                return agree("gap" + row, () -> x.gap(), () -> m.gap());
            case 23:
                return agree("joint" + row, () -> x.joint(w1), () -> m.joint(w1));
            case 24:
                return agree("apart" + row, () -> x.apart(t, u), () -> m.apart(t, u));
            case 25:
                return agree("oneHand" + row, () -> x.oneHand(t, u), () -> m.oneHand(t, u));
            case 26:
            case 27:
                return agree("written" + row, () -> x.written(p, step), () -> m.written(p, step));
            case 28:
                return agree("writing" + row, () -> x.writing(p, w1), () -> m.writing(p, w1));
            case 29:
            case 30:
                return agree("right" + row, () -> x.right(t, p, price, w2), () -> m.right(t, p, price, w2));
            case 31:
                return agree("rightPrice" + row, () -> x.rightPrice(t, p, most, w1), () -> m.rightPrice(t, p, most, w1));
            case 32:
            case 33:
                return agree("lender" + row, () -> x.lender(p, t, price, w2), () -> m.lender(p, t, price, w2));
            case 34:
                return agree("hands" + row, () -> x.hands(), () -> m.hands());
            case 35:
                return agree("leaving" + row, () -> x.leaving(p, y), () -> m.leaving(p, y));
            case 36:
                return agree("edge" + row, () -> x.edge(line, t, w1), () -> m.edge(line, t, w1));
            case 37:
            case 38:
                return agree("mark" + row, () -> x.mark(k, back) ? 1 : 0, () -> m.mark(k, back) ? 1 : 0);
            default:
                return agree("count" + row, () -> x.count(k + step), () -> m.count(k + step));
        }
    }
}
