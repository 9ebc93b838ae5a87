import java.lang.reflect.InvocationTargetException;
import java.lang.reflect.Method;
import java.util.ArrayList;
import java.util.Arrays;
import java.util.List;
import java.util.NoSuchElementException;

/** What is refused, what is only asked, what is told, and runs of 512 calls. */
public final class RunsTest extends Due {
    static final String TEXT = "person a costs 1;person b costs 2 3;person c costs 1 4 5;thing t;thing u;"
        + "makes 3*a with a t;makes 9*b with b u;makes 2*c*c with c;makes a*b*c with a b c t u;";
    static final int[] NO_PERSON = {MIN, MIN + 1, -256, -2, -1, 3, 4, 5, 31, 32, 33, 34, 64, 256, 1 << 16, 1 << 30, MAX - 1, MAX};
    static final int[] NO_THING = {MIN, MIN + 1, -256, -2, -1, 2, 3, 4, 31, 32, 33, 64, 256, 1 << 16, 1 << 30, MAX - 1, MAX};
    static final int[] NO_LINE = {MIN, MIN + 1, -256, -2, -1, 4, 5, 7, 8, 31, 32, 33, 256, 1 << 16, 1 << 30, MAX - 1, MAX};
    static final int[] NO_PEOPLE = {MIN, MIN + 1, -8, -2, -1, 8, 9, 15, 16, 256, 1 << 16, (1 << 16) + 1, 1 << 30, MAX - 1, MAX};
    static final int[] NO_THINGS = {MIN, MIN + 1, -4, -2, -1, 4, 5, 7, 8, 256, 1 << 16, (1 << 16) + 1, 1 << 30, MAX - 1, MAX};
    static final int[] NO_PAINS = {MIN, MIN + 1, MIN + 5, -256, -2, -1, 2, 3, 6, 12, 13, 14, 64, 65, 128, 255, 256, 257, 1 << 16, 1 << 30, MAX};
    static final int[] NO_STEP = {MIN, MIN + 1, -4, -2, -1, 2, 3, 4, 5, 32, 256, 1 << 16, MAX - 1, MAX};
    static final int[] NO_NEED = {MIN, MIN + 1, -2, -1, 0, 3, 4, 5, 32, 256, 1 << 16, MAX - 1, MAX};
    static final int[] NO_PLAIN = {MIN, MIN + 1, -25, -2, -1, 25, 26, 125, 216, 256, 1 << 16, MAX - 1, MAX};
    static final int[] NO_SUM = {MIN, MIN + 1, -9999, -2, -1, 10000, 10001, 1 << 16, 1 << 30, MAX - 1, MAX};
    static final int[] NO_MOST = {MIN, MIN + 1, -60, -2, -1, 61, 62, 100, 9999, 1 << 16, MAX - 1, MAX};

    static int[] beyond(int most) {
        return new int[] {MIN, MIN + 1, -256, -2, -1, most + 1, most + 2, most + 32, 256, 1 << 16, MAX - 1, MAX};
    }

    public static void main(String[] args) throws ReflectiveOperationException {
        testRefused();
        testPairsOfPainsAndSteps();
        testRefusedOfNobody();
        testAskingLeavesAll();
        testTellingIsSeen();
        testTellingAgain();
        testFiveHundredTwelve();
        end("what is refused or asked leaves all, what is told is seen, through 512 calls");
    }

    // ---- one object, and all that it answers

    static WhoseKiln told() {
        WhoseKiln x = of(TEXT);
        x.own(0, 3, 2);
        x.own(1, 4, 1);
        x.later(1, 6, 1);
        x.chance(3);
        x.bargain(1, 2);
        x.mark(0, false);
        feed(x, "thing");
        return x;
    }

    static Method call(String name) {
        for (Method m : WhoseKiln.class.getDeclaredMethods()) {
            if (m.getName().equals(name)) {
                return m;
            }
        }
        throw new IllegalArgumentException(name);
    }

    static String answer(WhoseKiln x, String name, Object... args) throws ReflectiveOperationException {
        try {
            return "" + call(name).invoke(x, args);
        } catch (InvocationTargetException e) {
            boolean told = e.getCause().getClass() == NoSuchElementException.class;
            return told ? "throws" : "throws " + e.getCause();
        }
    }

    /** Some two hundred calls that only ask. */
    static String all(WhoseKiln x) throws ReflectiveOperationException {
        StringBuilder s = new StringBuilder();
        for (int i = 0; i < 6; i++) {
            s.append(answer(x, "count", i)).append(i < 3 ? answer(x, "first", i) + ',' + answer(x, "rest", i) + ',' + answer(x, "rests", i) : "");
        }
        for (int p = 0; p < 4; p++) {
            for (int step = 0; step < 4; step++) {
                s.append(' ').append(answer(x, "cost", p, step));
            }
            for (int pains : new int[] {0, 1, 5, 57}) {
                s.append(' ').append(answer(x, "share", p, pains, 0)).append('/').append(answer(x, "share", p, pains, 1));
                s.append(' ').append(answer(x, "would", p, pains)).append(' ').append(answer(x, "leaving", p, pains));
            }
            s.append(' ').append(answer(x, "written", p, 1)).append(' ').append(answer(x, "writing", p, 0)).append(' ').append(answer(x, "writing", p, 1));
        }
        for (int t = 0; t < 3; t++) {
            s.append(' ').append(answer(x, "owner", t, 0)).append(' ').append(answer(x, "owner", t, 1));
            s.append(' ').append(answer(x, "right", t, 0, 2, t)).append(' ').append(answer(x, "rightPrice", t, 1, 9, 0));
            s.append(' ').append(answer(x, "lender", 1, t, 3, t)).append(' ').append(answer(x, "edge", t, t / 2, 0)).append(' ').append(answer(x, "edge", t, t % 2, 1));
        }
        for (int set = 0; set < 8; set++) {
            s.append(' ').append(answer(x, "has", set)).append(' ').append(answer(x, "makes", set, 41)).append(' ').append(answer(x, "worth", set, set % 4, 41));
        }
        for (int pains : new int[] {0, 1, 9, 57}) {
            s.append(' ').append(answer(x, "isRest", pains)).append(' ').append(answer(x, "good", pains)).append(' ').append(answer(x, "lost", pains));
        }
        for (int number : new int[] {0, 6, 12, 18, 24}) {
            s.append(' ').append(answer(x, "reached", number));
        }
        s.append(' ').append(answer(x, "best", 0)).append(' ').append(answer(x, "best", 1)).append(' ').append(answer(x, "gap"));
        s.append(' ').append(answer(x, "joint", 0)).append(' ').append(answer(x, "joint", 1)).append(' ').append(answer(x, "hands"));
        return s.append(' ').append(answer(x, "apart", 0, 1)).append(' ').append(answer(x, "oneHand", 0, 1)).toString();
    }

    static void same(String what, String got, String want) {
        if (!got.equals(want)) {
            due(what + ": " + got + " is not " + want, 1, 0);
        }
    }

    // ---- what is refused

    static void refused(String due, String name, Object[] args, int[]... bad) throws ReflectiveOperationException {
        about(name + " refuses others, and leaves all as it is");
        WhoseKiln x = told();
        String before = all(x);
        boolean told = !answer(x, name, args).equals(due) || name.equals("edge");
        due(name + Arrays.toString(args) + " is not refused", told, true);
        // What such a call tells is told back by the mark.
        x.mark(0, true);
        for (int i = 0; i < bad.length; i++) {
            for (int value : bad[i]) {
                Object[] wrong = args.clone();
                wrong[i] = value;
                same(name + Arrays.toString(wrong), answer(x, name, wrong), due);
            }
        }
        same("all behind " + name, all(x), before);
    }

    static void testRefused() throws ReflectiveOperationException {
        refused("-1", "cost", new Object[] {0, 1}, NO_PERSON, NO_STEP);
        refused("throws", "worth", new Object[] {7, 3, 57}, NO_PEOPLE, NO_THINGS, NO_PAINS);
        refused("false", "own", new Object[] {1, 5, 2}, NO_THING, NO_PEOPLE, NO_NEED);
        refused("false", "own", new Object[] {0, 0, 1}, NO_THING, NO_PEOPLE, new int[] {MIN, -1, 0, 2, 3, MAX});
        refused("-1", "owner", new Object[] {0, 1}, NO_THING, beyond(1));
        refused("false", "later", new Object[] {0, 5, 2}, NO_THING, NO_PEOPLE, NO_NEED);
        refused("false", "later", new Object[] {1, 0, 1}, NO_THING, NO_PEOPLE, new int[] {MIN, -1, 0, 2, 3, MAX});
        refused("false", "chance", new Object[] {10}, beyond(10));
        refused("-1", "has", new Object[] {7}, NO_PEOPLE);
        refused("throws", "makes", new Object[] {7, 57}, NO_PEOPLE, NO_PAINS);
        refused("false", "bargain", new Object[] {2, 0}, beyond(2), NO_PERSON);
        refused("false", "bargain", new Object[] {0, 1}, beyond(2), NO_PERSON);
        refused("throws", "share", new Object[] {2, 57, 1}, NO_PERSON, NO_PAINS, beyond(1));
        refused("-1", "would", new Object[] {2, 57}, NO_PERSON, NO_PAINS);
        refused("-1", "isRest", new Object[] {57}, NO_PAINS);
        refused("throws", "rest", new Object[] {2}, beyond(2));
        refused("-1", "rests", new Object[] {2}, beyond(2));
        refused("throws", "good", new Object[] {57}, NO_PAINS);
        refused("throws", "best", new Object[] {1}, beyond(1));
        refused("-1", "lost", new Object[] {57}, NO_PAINS);
        refused("throws", "reached", new Object[] {24}, NO_PLAIN);
        refused("-1", "first", new Object[] {2}, beyond(2));
        refused("-1", "joint", new Object[] {1}, beyond(1));
        refused("-1", "apart", new Object[] {0, 1}, NO_THING, new int[] {MIN, -1, 0, 2, 3, 33, MAX});
        refused("-1", "apart", new Object[] {1, 0}, NO_THING, new int[] {MIN, -1, 1, 2, 3, 32, MAX});
        refused("throws", "oneHand", new Object[] {0, 1}, NO_THING, new int[] {MIN, -1, 0, 2, 3, 33, MAX});
        refused("throws", "oneHand", new Object[] {1, 0}, NO_THING, new int[] {MIN, -1, 1, 2, 3, 32, MAX});
        refused("throws", "written", new Object[] {0, 1}, NO_PERSON, NO_STEP);
        refused("throws", "writing", new Object[] {2, 1}, NO_PERSON, beyond(1));
        refused("throws", "right", new Object[] {1, 2, 9999, 2}, NO_THING, NO_PERSON, NO_SUM, beyond(2));
        refused("throws", "rightPrice", new Object[] {1, 2, 60, 1}, NO_THING, NO_PERSON, NO_MOST, beyond(1));
        refused("throws", "lender", new Object[] {2, 1, 9999, 2}, NO_PERSON, NO_THING, NO_SUM, beyond(2));
        refused("throws", "leaving", new Object[] {2, 57}, NO_PERSON, NO_PAINS);
        refused("-1", "edge", new Object[] {3, 1, 1}, NO_LINE, NO_THING, beyond(1));
        refused("false", "mark", new Object[] {3, false}, beyond(3));
        refused("false", "mark", new Object[] {0, true}, new int[] {MIN, -1, 1, 2, 4, 5, 32, MAX});
        refused("-1", "count", new Object[] {5}, beyond(5));
    }

    static void testPairsOfPainsAndSteps() throws ReflectiveOperationException {
        about("PAINS: of the PEOPLE told, no STEP above their costs");
        String[] calls = {"isRest", "good", "lost"};
        for (String name : calls) {
            WhoseKiln x = told();
            for (int pains = -20; pains < 300; pains++) {
                boolean is = pains >= 0 && pains < 64 && (pains & 3) <= 1 && (pains >> 2 & 3) <= 2;
                String got = answer(x, name, pains);
                due(name + "(" + pains + ") is answered", !got.equals(name.equals("good") ? "throws" : "-1"), is);
            }
        }
        for (int p = 0; p < 3; p++) {
            WhoseKiln x = told();
            for (int pains = -20; pains < 80; pains++) {
                boolean is = pains >= 0 && pains < 64 && (pains & 3) <= 1 && (pains >> 2 & 3) <= 2;
                due("makes(" + p + ", " + pains + ") is answered", !answer(x, "makes", p, pains).equals("throws"), is);
                due("share(" + p + ", " + pains + ", 1) is answered", !answer(x, "share", p, pains, 1).equals("throws"), is);
                due("would(" + p + ", " + pains + ") is answered", !answer(x, "would", p, pains).equals("-1"), is);
                due("leaving(" + p + ", " + pains + ") is answered", !answer(x, "leaving", p, pains).equals("throws"), is);
            }
            for (int step = -2; step < 6; step++) {
                due("cost(" + p + ", " + step + ") is answered", x.cost(p, step) != NONE, step >= 0 && step <= p + 1);
                due("written(" + p + ", " + step + ") is answered", !answer(x, "written", p, step).equals("throws"), step >= 0 && step <= p + 1);
            }
        }
    }

    static void testRefusedOfNobody() throws ReflectiveOperationException {
        about("nobody");
        WhoseKiln x = of("thing t;thing u;makes 5 with t;makes 6 with t u;");
        String[] throwing = {"good", "best", "rest", "reached"};
        String[] none = {"isRest", "rests", "lost", "first", "joint"};
        for (int i = -1; i <= 3; i++) {
            for (String name : throwing) {
                same(name + "(" + i + ")", answer(x, name, i), "throws");
            }
            for (String name : none) {
                same(name + "(" + i + ")", answer(x, name, i), "-1");
            }
            for (int j = -1; j <= 2; j++) {
                same("cost", answer(x, "cost", i, j), "-1");
                same("would", answer(x, "would", i, j), "-1");
                same("bargain", answer(x, "bargain", i, j), "false");
                same("oneHand", answer(x, "oneHand", i, j), "throws");
                same("written", answer(x, "written", i, j), "throws");
                same("writing", answer(x, "writing", i, j), "throws");
                same("leaving", answer(x, "leaving", i, j), "throws");
                same("share", answer(x, "share", i, j, 0), "throws");
                same("right", answer(x, "right", i, j, 0, 0), "throws");
                same("rightPrice", answer(x, "rightPrice", i, j, 0, 0), "throws");
                same("lender", answer(x, "lender", j, i, 0, 0), "throws");
                same("edge", answer(x, "edge", i, j, 0), "-1");
            }
        }
        due("gap()", x.gap(), NONE);
        due("hands()", x.hands(), NONE);
        due("apart(0, 1)", x.apart(0, 1), 0);
        due("worth(0, 3, 0)", x.worth(0, 3, 0), 11);
        due("own(1, 0, 1)", x.own(1, 0, 1), true);
        due("has(0)", x.has(0), 3);
        due("makes(0, 0)", x.makes(0, 0), 11);
        fails("makes(0, 1)", () -> x.makes(0, 1));
        fails("makes(1, 0)", () -> x.makes(1, 0));
        due("mark(0, false)", x.mark(0, false), true);
        due("chance(4)", x.chance(4), true);
    }

    // ---- what is asked, what is told

    static void testAskingLeavesAll() throws ReflectiveOperationException {
        about("what is only asked leaves all as it is");
        WhoseKiln x = told();
        String before = all(x);
        same("all asked twice", all(x), before);
        String[] names = {"rest", "rests", "best", "first", "joint", "isRest", "good", "lost", "reached"};
        for (String name : names) {
            WhoseKiln y = told();
            answer(y, name, 1);
            same("all behind " + name, all(y), before);
        }
        Object[][] calls = {{"edge", 1, 1, 0}, {"edge", 0, 0, 1}, {"right", 1, 0, 3, 0}, {"rightPrice", 0, 2, 60, 0}, {"lender", 2, 1, 9999, 0},
            {"lender", 0, 0, 0, 0}, {"written", 2, 3}, {"writing", 1, 0}, {"oneHand", 1, 0}, {"apart", 1, 0}, {"share", 2, 57, 0}, {"makes", 3, 57},
            {"leaving", 1, 57}, {"would", 2, 57}, {"gap"}, {"hands"}, {"worth", 7, 3, 41}, {"feed", 0L, -1L, 0L}, {"mark", 1, false}};
        for (Object[] c : calls) {
            WhoseKiln y = told();
            answer(y, (String) c[0], Arrays.copyOfRange(c, 1, c.length));
            same("all behind " + Arrays.toString(c), all(y), before);
        }
    }

    static final Object[][] TELLS = {{"own", 0, 1, 1}, {"own", 1, 0, 1}, {"own", 0, 7, 3}, {"later", 0, 1, 1}, {"later", 1, 0, 1}, {"chance", 0}, {"chance", 10},
        {"bargain", 0, 0}, {"bargain", 2, 1}, {"bargain", 2, 0}, {"works"}, {"mark", 0, true}, {"mark", 0, false}};

    static void tell(WhoseKiln x, Object[] c) throws ReflectiveOperationException {
        if (c[0].equals("works")) {
            x.works();
            feed(x, TEXT.replace("9*b", "5*b").replace("4 5;", "0;"));
        }
        answer(x, (String) c[0], Arrays.copyOfRange(c, 1, c.length));
    }

    static void testTellingIsSeen() throws ReflectiveOperationException {
        about("what is told is seen by all that is asked behind it, whatever was asked ahead");
        String first = all(told());
        for (Object[] a : TELLS) {
            WhoseKiln fresh = told();
            tell(fresh, a);
            String want = all(fresh);
            WhoseKiln asked = told();
            all(asked);
            tell(asked, a);
            same("all behind " + Arrays.toString(a), all(asked), want);
            due("something else behind " + Arrays.toString(a), want.equals(first), a[0].equals("mark"));
        }
        // Each call that asks, asked ahead and behind, alone.
        Object[][] asks = {{"reached", 0}, {"first", 0}, {"first", 1}, {"first", 2}, {"gap"}, {"joint", 0}, {"joint", 1}, {"oneHand", 0, 1}, {"edge", 1, 1, 0},
            {"rest", 0}, {"rests", 0}, {"written", 1, 1}, {"writing", 1, 1}, {"right", 0, 0, 1, 0}, {"rightPrice", 0, 0, 9, 0}, {"lender", 1, 1, 3, 0},
            {"share", 0, 57, 0}, {"would", 1, 1}, {"isRest", 1}, {"good", 57}, {"best", 0}, {"lost", 0}, {"worth", 7, 3, 57}, {"makes", 5, 57},
            {"leaving", 1, 57}, {"has", 5}, {"hands"}, {"apart", 0, 1}};
        for (Object[] ask : asks) {
            for (Object[] a : TELLS) {
                WhoseKiln fresh = told();
                tell(fresh, a);
                WhoseKiln asked = told();
                answer(asked, (String) ask[0], Arrays.copyOfRange(ask, 1, ask.length));
                tell(asked, a);
                Object[] rest = Arrays.copyOfRange(ask, 1, ask.length);
                same(ask[0] + " behind " + Arrays.toString(a), answer(asked, (String) ask[0], rest), answer(fresh, (String) ask[0], rest));
            }
        }
    }

    static void testTellingAgain() throws ReflectiveOperationException {
        about("what is told again counts, not what was told ahead of it");
        String want = all(told());
        WhoseKiln x = told();
        x.own(0, 1, 1);
        x.own(1, 7, 3);
        x.later(1, 0, 1);
        x.chance(9);
        x.bargain(0, 0);
        x.own(0, 3, 2);
        x.own(1, 4, 1);
        x.later(1, 6, 1);
        x.chance(3);
        x.bargain(1, 2);
        same("all told again", all(x), want);
    }

    // ---- 512 calls

    static void testFiveHundredTwelve() throws ReflectiveOperationException {
        about("at most 512 calls: every promise holds through all of them");
        WhoseKiln fed = new WhoseKiln();
        for (int i = 1; i <= 512; i++) {
            due("feed " + i, fed.feed(0, 0, ' '), i);
        }
        WhoseKiln read = new WhoseKiln();
        for (int i = 0; i < 128; i++) {
            String text = "person a costs " + i % 10 + ";";
            due("works", works(read, text), 0);
            due("cost(0, 1)", read.cost(0, 1), i % 10);
        }
        WhoseKiln chances = of("person a costs 1;person b costs 1;thing t;makes 10*a with a t;");
        chances.own(0, 1, 1);
        chances.later(0, 2, 1);
        for (int i = 0; i < 125; i++) {
            chances.chance(i % 11);
            due("share of a in turn " + i, chances.share(0, 1, 0), above(i % 11));
            due("share of b in turn " + i, chances.share(1, 1, 1), i % 11 % 2 == 0 ? 1 : 2);
            due("reached in turn " + i, chances.reached(0), 9);
        }
        longEdges();
        longMarks();
        longDeals();
    }

    /** Above: 10 as a's own and 5 as b's, that by so many of ten. */
    static int above(int ten) {
        return ten % 2 == 0 ? 10 - ten / 2 : 20 - ten;
    }

    static void longEdges() {
        WhoseKiln x = of(KILN);
        x.own(0, 1, 1);
        for (int i = 0; i < 120; i++) {
            due("edge(0, 0, 0)", x.edge(0, 0, 0), 21);
            due("edge(0, 0, 1)", x.edge(0, 0, 1), 9);
            due("rest(2)", x.rest(2), 12);
            due("worth(3, 1, 6)", x.worth(3, 1, 6), 26);
        }
        due("first(1)", x.first(1), 2);
    }

    static void longMarks() {
        WhoseKiln x = of("person a costs 1;thing t;makes 5 with t;");
        List<Integer> owners = new ArrayList<>(List.of(0, 0, 0, 0));
        for (int mark = 0; mark < 4; mark++) {
            x.mark(mark, false);
        }
        for (int i = 0; i < 125; i++) {
            int mark = i % 4;
            due("mark(" + mark + ", true)", x.mark(mark, true), true);
            due("owner(0, 0)", x.owner(0, 0), owners.get(mark));
            owners.set(mark, i / 4 % 2);
            x.own(0, i / 4 % 2, 1);
            x.mark(mark, false);
        }
    }

    static void longDeals() {
        WhoseKiln x = of(KILN);
        x.own(0, 1, 1);
        for (int i = 0; i < 60; i++) {
            due("right(0, 1, 0, 0)", x.right(0, 1, 0, 0), 4);
            due("right(0, 1, 5, 0)", x.right(0, 1, 5, 0), 1);
            due("lender(0, 0, 8, 0)", x.lender(0, 0, 8, 0), 0);
            due("lender(0, 0, 5, 0)", x.lender(0, 0, 5, 0), 1);
            due("rest(0)", x.rest(0), 1);
            due("written(1, 1)", x.written(1, 1), 14);
            due("writing(1, 0)", x.writing(1, 0), 1);
            due("gap()", x.gap(), 0);
        }
    }
}
