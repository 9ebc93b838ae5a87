/** Each sentence of Terms 2 to 4, and of the promises that rest on them, that names a boundary case. */
public final class TermsTest extends Due {
    static final String FOUR = "person a costs 1;person b costs 1;person c costs 1;person d costs 1;";
    // Where c asks, a, b and d take pains only as the only owners of t, u and v: 1, 2 and 4 are won by it.
    static final String LEVERS = FOUR + "thing t;thing u;thing v;makes 2*a with a t;makes 3*b with b u;makes 5*d with d v;";
    // Where b owns k two chase one another; where not, b stands still.
    static final String CHASED_AS_OWNER = CHASE + "makes 40*b with b k;makes 0-40*b with b;";

    public static void main(String[] args) {
        testNeed();
        testOwner();
        testHasByNeed();
        testHasWithoutOwners();
        testMakes();
        testAllOrders();
        testEvenParts();
        testAsker();
        testBargainAtFirst();
        testBelowZero();
        testLowestTerms();
        testOwnPains();
        testWould();
        testWouldAmongAll();
        testRest();
        testTurns();
        testTurnsStayOnEqual();
        testThirtyRounds();
        testGood();
        testBest();
        testRests();
        testPlainNumbers();
        testPlainKinds();
        testFirst();
        testFirstOfEqual();
        testGap();
        testJoint();
        testApart();
        testApartEdges();
        testOneHand();
        testOneHandWithoutEnd();
        end("the sentences of Terms 2 to 4 hold");
    }

    static WhoseKiln levers() {
        WhoseKiln x = of(LEVERS);
        x.bargain(2, 2);
        return x;
    }

    static void testNeed() {
        about("NEED (1 to how many these are; 1 if there are none)");
        for (int thing = 0; thing < 3; thing++) {
            WhoseKiln x = of(FOUR + "thing t;thing u;thing v;");
            for (int owners = 0; owners < 16; owners++) {
                int most = Math.max(1, Integer.bitCount(owners));
                for (int need = -1; need <= 6; need++) {
                    boolean told = need >= 1 && need <= most;
                    String args = "(" + thing + ", " + owners + ", " + need + ")";
                    due("own" + args, x.own(thing, owners, need), told);
                    due("later" + args, x.later(thing, owners, need), told);
                }
                due("OWNERS", x.owner(thing, 0), owners);
                due("NEED, what was refused is not told", x.owner(thing, 1), most);
            }
        }
        WhoseKiln x = of(FOUR + "thing t;thing u;thing v;");
        x.own(0, 15, 3);
        for (int bad : new int[] {-1, 16, 17, 1 << 16, MIN, MIN + 1, MAX}) {
            due("own(0, " + bad + ", 1)", x.own(0, bad, 1), false);
            due("later(0, " + bad + ", 1)", x.later(0, bad, 1), false);
            due("own(0, 1, " + bad + ")", x.own(0, 1, bad), false);
            due("later(0, 1, " + bad + ")", x.later(0, 1, bad), false);
        }
        for (int bad : new int[] {-1, 3, 4, 32, MIN, MAX}) {
            due("own(" + bad + ", 1, 1)", x.own(bad, 1, 1), false);
            due("later(" + bad + ", 1, 1)", x.later(bad, 1, 1), false);
        }
        due("OWNERS still", x.owner(0, 0), 15);
        due("NEED still", x.owner(0, 1), 3);
        WhoseKiln nobody = of("thing t;");
        due("own(0, 0, 1) of nobody", nobody.own(0, 0, 1), true);
        due("own(0, 0, 0) of nobody", nobody.own(0, 0, 0), false);
        due("own(0, 1, 1) of nobody", nobody.own(0, 1, 1), false);
        due("later(0, 0, 1) of nobody", nobody.later(0, 0, 1), true);
    }

    static void testOwner() {
        about("no OWNERS at first");
        WhoseKiln x = of(FOUR + "thing t;thing u;thing v;");
        for (int thing = 0; thing < 3; thing++) {
            due("owner(" + thing + ", 0)", x.owner(thing, 0), 0);
            due("owner(" + thing + ", 1)", x.owner(thing, 1), 1);
        }
        about("Of a THING, what 0: OWNERS, 1: NEED; NONE: others");
        x.own(1, 13, 2);
        due("owner(1, 0)", x.owner(1, 0), 13);
        due("owner(1, 1)", x.owner(1, 1), 2);
        due("owner(0, 0)", x.owner(0, 0), 0);
        due("owner(2, 0)", x.owner(2, 0), 0);
        for (int bad : new int[] {-1, 3, 4, MIN, MAX}) {
            due("owner(" + bad + ", 0)", x.owner(bad, 0), NONE);
            due("owner(1, what)", x.owner(1, bad == 3 ? 2 : bad), NONE);
        }
        // Whom nobody is told of later is owner still.
        x.later(1, 2, 1);
        x.chance(10);
        due("owner(1, 0) whatever is later", x.owner(1, 0), 13);
        due("has(9) whatever is later", x.has(9), 2);
        due("has(2) whatever is later", x.has(2), 0);
    }

    static void testHasByNeed() {
        about("a set of PEOPLE HAS it if NEED of its OWNERS at least are among them");
        for (int owners = 1; owners < 16; owners++) {
            WhoseKiln x = of(FOUR + "thing t;thing u;thing v;makes 5 with u;");
            for (int need = 1; need <= Integer.bitCount(owners); need++) {
                x.own(1, owners, need);
                for (int people = 0; people < 16; people++) {
                    boolean has = Integer.bitCount(people & owners) >= need;
                    due("has(" + people + ") by " + need + " of " + owners, x.has(people), (has ? 2 : 0) + (people == 15 ? 5 : 0));
                    due("makes(" + people + ", 0) by " + need + " of " + owners, x.makes(people, 0), has ? 5 : 0);
                }
            }
        }
        WhoseKiln x = of(FOUR + "thing t;thing u;thing v;makes 5 with u;");
        for (int bad : new int[] {-1, 16, 17, 31, 1 << 16, MIN, MAX}) {
            due("has(" + bad + ")", x.has(bad), NONE);
        }
    }

    static void testHasWithoutOwners() {
        about("without OWNERS all PEOPLE together alone HAVE it");
        String people = "";
        for (int n = 1; n <= 4; n++) {
            people += "person " + "abcd".charAt(n - 1) + " costs 1;";
            WhoseKiln x = of(people + "thing t;makes 3 with t;");
            for (int set = 0; set < 1 << n; set++) {
                boolean all = set == (1 << n) - 1;
                due("has(" + set + ") of " + n, x.has(set), all ? 1 : 0);
                due("makes(" + set + ", 0) of " + n, x.makes(set, 0), all ? 3 : 0);
            }
            x.own(0, 1, 1);
            due("has(1) by one", x.has(1), 1);
            x.own(0, 0, 1);
            due("has(1) by nobody again", x.has(1), n == 1 ? 1 : 0);
        }
        WhoseKiln nobody = of("thing t;makes 3 with t;");
        due("has(0) of nobody, who are all", nobody.has(0), 1);
        due("makes(0, 0) of nobody", nobody.makes(0, 0), 3);
        due("has(1) of nobody", nobody.has(1), NONE);
    }

    static void testMakes() {
        about("What a set MAKES: its WORTH with the THINGS it HAS");
        WhoseKiln x = of(FOUR + "thing t;thing u;makes 1 with a;makes 10 with a t;makes 100 with b t u;makes 1000 with c;");
        x.own(0, 3, 1);
        x.own(1, 6, 2);
        int[] want = {0, 11, 0, 11, 1000, 1011, 1100, 1111};
        for (int set = 0; set < 8; set++) {
            due("makes(" + set + ", 0)", x.makes(set, 0), want[set]);
            due("makes(" + (set + 8) + ", 85)", x.makes(set + 8, 85), want[set]);
        }
        for (int bad : new int[] {-1, 16, MIN, MAX}) {
            fails("makes(" + bad + ", 0)", () -> x.makes(bad, 0));
        }
        for (int bad : new int[] {-1, 2, 8, 32, 128, 256, MIN, MAX}) {
            fails("makes(0, " + bad + ")", () -> x.makes(0, bad));
        }
    }

    static void testAllOrders() {
        about("0: in all orders the mean of what those there MAKE more by one's coming");
        // One: all that one makes. Two, three, four: even parts of what only all of a group make.
        share(of("person a costs 1;makes 7 with a;"), 0, 0, 7, 1);
        share(of("person a costs 1;thing t;makes 7 with t;"), 0, 0, 7, 1);
        for (int n = 2; n <= 4; n++) {
            String text = FOUR.substring(0, 17 * n);
            String with = "a b c d".substring(0, 2 * n - 1);
            WhoseKiln x = of(text + "makes 12 with " + with + ";makes 5 with a;thing t;makes 60 with t;");
            for (int p = 0; p < n; p++) {
                share(x, p, 0, 72 / n + (p == 0 ? 5 : 0), 1);
            }
            x.own(0, 2, 1);
            for (int p = 0; p < n; p++) {
                share(x, p, 0, 12 / n + (p == 0 ? 5 : 0) + (p == 1 ? 60 : 0), 1);
            }
        }
        // a and one of c and d make it: a is behind one of them in 2 of 3 orders, c behind a and ahead of d in 1 of 6.
        WhoseKiln y = of(FOUR + "thing t;makes 12 with a t;");
        y.own(0, 12, 1);
        share(y, 0, 0, 8, 1);
        share(y, 1, 0, 0, 1);
        share(y, 2, 0, 2, 1);
        share(y, 3, 0, 2, 1);
        y.own(0, 12, 2);
        share(y, 0, 0, 4, 1);
        share(y, 3, 0, 4, 1);
        y.own(0, 15, 3);
        // Three with a among them: the three others are as good as one another.
        share(y, 0, 0, 6, 1);
        share(y, 1, 0, 2, 1);
        y.own(0, 0, 1);
        share(y, 0, 0, 3, 1);
        share(y, 1, 0, 3, 1);
        // Three people, a and one of b and c.
        WhoseKiln z = of(FOUR.substring(0, 51) + "thing t;makes 12 with a t;");
        z.own(0, 6, 1);
        share(z, 0, 0, 8, 1);
        share(z, 1, 0, 2, 1);
        share(z, 2, 0, 2, 1);
    }

    static void testEvenParts() {
        about("1: what one MAKES alone, and an even part of what all MAKE above the sum of that");
        for (int n = 1; n <= 4; n++) {
            WhoseKiln x = of(FOUR.substring(0, 17 * n) + "makes 5 with a;thing t;makes 12 with t;");
            x.bargain(1, 0);
            for (int p = 0; p < n; p++) {
                share(x, p, 0, 12 / n + (p == 0 ? 5 : 0), 1);
            }
        }
        // What two make without the rest is in what all make alone.
        WhoseKiln y = of(FOUR + "makes 7 with a;makes 4 with b;makes 8 with a b;makes 0-2 with c;");
        y.bargain(1, 3);
        share(y, 0, 0, 9, 1);
        share(y, 1, 0, 6, 1);
        share(y, 2, 0, 0, 1);
        share(y, 3, 0, 2, 1);
        // All make less than the sum: an even part of that is taken away.
        WhoseKiln z = of("person a costs 1;person b costs 1;makes 10 with a;makes 10 with b;makes 0-24 with a b;");
        z.bargain(1, 0);
        share(z, 0, 0, -2, 1);
        share(z, 1, 0, -2, 1);
        // Each alone has what they own; an odd rest is halved.
        WhoseKiln w = of(KILN);
        w.own(0, 1, 1);
        w.bargain(1, 0);
        share(w, 0, 5, 13, 1);
        share(w, 1, 5, 8, 1);
        w.own(0, 0, 1);
        share(w, 0, 5, 21, 2);
    }

    static void testAsker() {
        about("2: what one MAKES alone, but for the ASKER, who gets the rest of what all MAKE");
        WhoseKiln x = of(FOUR + "makes 7 with a;makes 4 with b;makes 8 with a b;makes 0-2 with c;");
        int[] alone = {7, 4, -2, 0};
        for (int asker = 0; asker < 4; asker++) {
            due("bargain(2, " + asker + ")", x.bargain(2, asker), true);
            for (int p = 0; p < 4; p++) {
                share(x, p, 0, p == asker ? 8 + alone[p] : alone[p], 1);
            }
        }
        WhoseKiln one = of("person a costs 1;thing t;makes 6 with t;");
        one.bargain(2, 0);
        share(one, 0, 0, 6, 1);
        WhoseKiln less = of("person a costs 1;person b costs 1;makes 10 with a;makes 10 with b;makes 0-24 with a b;");
        less.bargain(2, 1);
        share(less, 0, 0, 10, 1);
        share(less, 1, 0, -14, 1);
        for (int bad : new int[] {-1, 4, 5, MIN, MAX}) {
            for (int kind = 0; kind <= 2; kind++) {
                due("bargain(" + kind + ", " + bad + ")", x.bargain(kind, bad), false);
            }
        }
        for (int bad : new int[] {-1, 3, 4, MIN, MAX}) {
            due("bargain(" + bad + ", 0)", x.bargain(bad, 0), false);
        }
        share(x, 3, 0, 8, 1);
        due("bargain(0, 0) of nobody", new WhoseKiln().bargain(0, 0), false);
        due("bargain(2, 0) of nobody", of("thing t;").bargain(2, 0), false);
    }

    static void testBargainAtFirst() {
        about("BARGAINS (0 at first)");
        String text = "person a costs 1;person b costs 1;person c costs 1;makes 12 with a b;";
        WhoseKiln x = of(text);
        share(x, 0, 0, 6, 1);
        share(x, 2, 0, 0, 1);
        x.bargain(1, 2);
        share(x, 2, 0, 4, 1);
        x.bargain(2, 2);
        share(x, 2, 0, 12, 1);
        x.bargain(0, 1);
        share(x, 0, 0, 6, 1);
        x.bargain(2, 2);
        works(x, text);
        share(x, 0, 0, 6, 1);
        share(x, 2, 0, 0, 1);
    }

    static void testBelowZero() {
        about("SHARE, what 0: above (it may be below 0), 1: below");
        WhoseKiln x = of("person a costs 1;person b costs 1;person c costs 1;makes 0-7 with a b;makes 0-1 with a b c;makes 0-6 with c;");
        share(x, 0, 0, -23, 6);
        share(x, 1, 0, -23, 6);
        share(x, 2, 0, -19, 3);
        x.bargain(1, 0);
        share(x, 0, 0, -8, 3);
        share(x, 2, 0, -26, 3);
        for (int what : new int[] {-1, 2, 3, MIN, MAX}) {
            fails("share(0, 0, " + what + ")", () -> x.share(0, 0, what));
        }
        for (int person : new int[] {-1, 3, 4, 32, MIN, MAX}) {
            fails("share(" + person + ", 0, 0)", () -> x.share(person, 0, 0));
        }
        for (int pains : new int[] {-1, 2, 22, 64, MIN, MAX}) {
            fails("share(0, " + pains + ", 0)", () -> x.share(0, pains, 0));
        }
    }

    static void testLowestTerms() {
        about("in lowest terms");
        WhoseKiln zero = of(FOUR);
        share(zero, 3, 0, 0, 1);
        WhoseKiln x = of(FOUR + "thing t;makes 1 with a b t;");
        x.own(0, 8, 1);
        x.later(0, 12, 1);
        share(x, 0, 0, 1, 3);
        share(x, 2, 0, 0, 1);
        x.chance(10);
        share(x, 0, 0, 5, 12);
        share(x, 2, 0, 1, 12);
        // One of ten of a twelfth.
        x.chance(1);
        share(x, 2, 0, 1, 120);
        share(x, 0, 0, 41, 120);
        share(x, 3, 0, 37, 120);
        x.chance(6);
        share(x, 2, 0, 1, 20);
        WhoseKiln y = of(FOUR + "makes 9999*10+9 with a b c d;");
        share(y, 0, 0, 99999, 4);
        y.bargain(2, 0);
        share(y, 0, 0, 99999, 1);
        WhoseKiln z = of("person a costs 1;person b costs 1;makes 9999*11 with a;makes 9999*11 with b;makes 0-9999*99 with a b;");
        // Each makes 99999 alone, both make -99999.
        share(z, 0, 0, -99999, 2);
        z.bargain(2, 0);
        share(z, 0, 0, -199998, 1);
        share(z, 1, 0, 99999, 1);
    }

    static void testOwnPains() {
        about("less the cost of one's own PAINS what one HAS OF IT");
        WhoseKiln x = of("person a costs 5;person b costs 999;makes 6*a with a;makes 5*b with b;");
        due("would(0, 0)", x.would(0, 0), 1);
        due("would(0, 4), whatever the other's cost", x.would(0, 4), 1);
        due("would(1, 1)", x.would(1, 1), 0);
        // A share is without the cost.
        share(x, 0, 5, 6, 1);
        share(x, 1, 5, 5, 1);
        due("rest(0)", x.rest(0), 1);
        WhoseKiln y = of("person a costs 6;person b costs 5;makes 6*a with a;makes 12*b with a b;");
        // What is left is not more.
        due("would(0, 0)", y.would(0, 0), 0);
        due("would(0, 1)", y.would(0, 1), 0);
        due("would(1, 0), a half", y.would(1, 0), 1);
        due("isRest(5)", y.isRest(5), 1);
    }

    static void testWould() {
        about("One WOULD take, others' PAINS being as they are, the STEP by which one HAS the most OF IT");
        WhoseKiln x = of("person a costs 1 2 3;person b costs 1 2 3;makes 9*(a=b) with a;makes 4*b with b;makes 9*(b<a) with b;");
        for (int b = 0; b <= 3; b++) {
            for (int a = 0; a <= 3; a++) {
                due("would(0, a " + a + ", b " + b + ")", x.would(0, a + 4 * b), b);
                // b wins 3 by each step; below a there are 9 more.
                due("would(1, a " + a + ", b " + b + ")", x.would(1, a + 4 * b), a == 0 ? 3 : a - 1);
            }
        }
        about("of equal ones the least");
        WhoseKiln y = of("person a costs 2 4 6;makes 2*a with a;");
        for (int a = 0; a <= 3; a++) {
            due("would(0, " + a + ")", y.would(0, a), 0);
        }
        WhoseKiln z = of("person a costs 2 4 6;makes 2*a+(0<a) with a;");
        for (int a = 0; a <= 3; a++) {
            due("would(0, " + a + ")", z.would(0, a), 1);
        }
        due("would(0, 0), a third", of("person a costs 1 1 1;makes 5*(1<a) with a;").would(0, 0), 2);
        due("would(0, 0), zero for all", of("person a costs 0 0 0;").would(0, 2), 0);
        about("The STEP one WOULD take; NONE: others");
        for (int bad : new int[] {-1, 2, 3, 32, MIN, MAX}) {
            due("would(" + bad + ", 0)", x.would(bad, 0), NONE);
        }
        for (int bad : new int[] {-1, 16, 64, MIN, MAX}) {
            due("would(0, " + bad + ")", x.would(0, bad), NONE);
        }
        due("would(0, 4)", y.would(0, 4), NONE);
        due("would(0, 0) of nobody", of("thing t;").would(0, 0), NONE);
    }

    static void testWouldAmongAll() {
        about("what one HAS by exact parts: less than one more is more");
        // A third of 4 for 1, a half of 3 for 1, and a tenth more than the cost.
        WhoseKiln x = of("person a costs 1;person b costs 1;person c costs 1;makes 4*a with a b c;");
        due("would(0, 0)", x.would(0, 0), 1);
        due("would(0, 0)", of("person a costs 1;person b costs 1;person c costs 1;makes 3*a with a b c;").would(0, 0), 0);
        WhoseKiln y = of("person a costs 1;person b costs 1;makes 3*a with a b;");
        due("would(0, 0)", y.would(0, 0), 1);
        WhoseKiln z = of("person a costs 1;person b costs 1;thing t;makes 2*a with a t;");
        z.own(0, 1, 1);
        z.later(0, 2, 1);
        for (int ten = 0; ten <= 10; ten++) {
            z.chance(ten);
            due("would(0, 0) by " + ten, z.would(0, 0), ten < 10 ? 1 : 0);
        }
        z.bargain(2, 1);
        for (int ten = 0; ten <= 10; ten++) {
            z.chance(ten);
            due("would(0, 0) by " + ten + " where b asks", z.would(0, 0), ten < 5 ? 1 : 0);
        }
    }

    static void testRest() {
        about("PAINS are a REST if nobody HAS more OF IT by another STEP");
        WhoseKiln x = of("person a costs 2 4 6;person b costs 1 2;makes 2*a with a;makes b with b;");
        for (int pains = 0; pains < 12; pains++) {
            due("isRest(" + pains + "), all are equal", x.isRest(pains), pains < 12 ? 1 : NONE);
        }
        due("isRest(12)", x.isRest(12), NONE);
        WhoseKiln y = of("person a costs 1 2;person b costs 1 2;makes 9*a*b with a b;");
        // 4.5 by each step of the other's: both stand still or take all pains.
        int[] rests = {1, 0, 0, 0, 0, 0, 0, 0, 0, 0, 1};
        for (int pains = 0; pains <= 10; pains++) {
            due("isRest(" + pains + ")", y.isRest(pains), pains % 4 == 3 ? NONE : rests[pains]);
        }
        for (int bad : new int[] {-1, 11, 12, 16, MIN, MAX}) {
            due("isRest(" + bad + ")", y.isRest(bad), NONE);
        }
        // The last of four, by the last step, would have more.
        WhoseKiln z = of(FOUR.replace("d costs 1", "d costs 1 1 1") + "makes (d=3)*2 with d;");
        due("isRest(0)", z.isRest(0), 0);
        due("isRest(192)", z.isRest(192), 1);
        due("isRest(0) of nobody", of("thing t;").isRest(0), NONE);
    }

    static void testTurns() {
        about("By TURNS: from PAINS 0 on, person 0, then 1, and so on, takes what they WOULD");
        // From a's step 1, which costs a nothing, b would step, too.
        WhoseKiln x = of("person a costs 0;person b costs 1;thing k;makes 9*a*b with a b;");
        due("rest(0), from 0", x.rest(0), 0);
        due("rest(1), the one that changes nothing", x.rest(1), 1);
        due("isRest(5), another one", x.isRest(5), 1);
        due("reached(0), from 0", x.reached(0), 0);
        due("first(1), from 0", x.first(1), 4);
        due("gap(), from 0", x.gap(), 0);
        due("joint(1), from 0", x.joint(1), 0);
        due("right(0, 0, 9999, 0), from 0", x.right(0, 0, 9999, 0), 0);
        due("rightPrice(0, 0, 60, 1), from 0", x.rightPrice(0, 0, 60, 1), 0);
        due("lender(0, 0, 0, 0), from 0", x.lender(0, 0, 0, 0), 0);
        due("written(0, 1), the other from 0", x.written(0, 1), 8);
        due("written(1, 1), the other from 0", x.written(1, 1), 8);
        due("writing(0, 1), less what is reached from 0", x.writing(0, 1), 8);
        WhoseKiln y = of("person a costs 1;person b costs 1;person c costs 1;makes 9*(a+b+c=1) with a;makes 9*(a+b+c=1) with b;makes 9*(a+b+c=1) with c;");
        due("rest(0), a goes first", y.rest(0), 1);
        due("rest(1)", y.rest(1), 2);
        WhoseKiln z = of("person a costs 1;person b costs 1;person c costs 1;makes 3*a with a;makes 3*b*a with b;makes 3*c*b with c;");
        due("rest(0), each sees those ahead", z.rest(0), 21);
        due("rest(1), all in one round", z.rest(1), 2);
        WhoseKiln back = of("person a costs 1;person b costs 1;person c costs 1;makes 3*a*b with a;makes 3*b*c with b;makes 3*c with c;");
        due("rest(0), each sees those behind", back.rest(0), 21);
        due("rest(1), one in each round", back.rest(1), 4);
        WhoseKiln leap = of("person a costs 1 2 3;makes a*a with a;");
        due("rest(0), what they would at once", leap.rest(0), 3);
        due("rest(1)", leap.rest(1), 2);
        due("rest(2)", leap.rest(2), 6);
        for (int what : new int[] {-1, 3, MIN, MAX}) {
            fails("rest(" + what + ")", () -> leap.rest(what));
        }
        for (int what = 0; what <= 2; what++) {
            int w = what;
            fails("rest of nobody", () -> of("thing t;").rest(w));
            fails("rest of a chase", () -> of(CHASE).rest(w));
        }
    }

    static void testTurnsStayOnEqual() {
        about("if they HAVE more by it than now");
        // a steps while b has not; then a's step brings its cost and no more: a would go back, and stays.
        WhoseKiln x = of("person a costs 1;person b costs 1;makes (2-b)*a with a;makes 5*a*b with b;");
        due("rest(0)", x.rest(0), 5);
        due("rest(1)", x.rest(1), 2);
        due("rest(2)", x.rest(2), 4);
        due("would(0, 5)", x.would(0, 5), 0);
        due("isRest(5)", x.isRest(5), 1);
        // From a step that is as good as 0 a third one that is better is taken still.
        WhoseKiln y = of("person a costs 1 1;person b costs 1;makes 2*(a=1)*(b=0)+(a=1)*b+3*(a=2)*b with a;makes 5*(0<a)*b with b;");
        due("rest(0)", y.rest(0), 6);
        due("rest(1)", y.rest(1), 3);
    }

    static void testThirtyRounds() {
        about("30 rounds at most (none if the 30th one changes something still)");
        WhoseKiln x = of(IN_THIRTY + "thing k;");
        due("rest(1)", x.rest(1), 30);
        int good = x.rest(2);
        int pains = x.rest(0);
        due("isRest(rest(0))", x.isRest(pains), 1);
        due("good(rest(0))", x.good(pains), good);
        for (int number = 0; number < 6; number++) {
            due("reached(" + number + ")", x.reached(number), good);
        }
        due("first(0)", x.first(0), 0);
        due("first(1)", x.first(1), 6);
        due("first(2)", x.first(2), 0);
        due("gap()", x.gap(), 0);
        due("joint(0)", x.joint(0), 0);
        due("right(0, 0, 9999, 0)", x.right(0, 0, 9999, 0), pains);
        due("right(0, 0, 9999, 1)", x.right(0, 0, 9999, 1), good);
        due("rightPrice(0, 0, 60, 0)", x.rightPrice(0, 0, 60, 0), 0);
        due("lender(0, 0, 0, 0)", x.lender(0, 0, 0, 0), pains);
        due("lender(0, 0, 0, 1)", x.lender(0, 0, 0, 1), good);
        WhoseKiln y = of(IN_THIRTY_ONE + "thing k;");
        for (int what = 0; what <= 2; what++) {
            int w = what;
            fails("rest(" + w + ")", () -> y.rest(w));
            fails("right(0, 0, 9999, " + w + ")", () -> y.right(0, 0, 9999, w));
            fails("lender(0, 0, 0, " + w + ")", () -> y.lender(0, 0, 0, w));
        }
        fails("reached(5)", () -> y.reached(5));
        due("first(0)", y.first(0), NONE);
        due("first(2)", y.first(2), 6);
        due("gap()", y.gap(), NONE);
        due("joint(0)", y.joint(0), NONE);
        fails("rightPrice(0, 0, 0, 0)", () -> y.rightPrice(0, 0, 0, 0));
        fails("writing(0, 0)", () -> y.writing(0, 0));
        due("rests(0), a rest there is", y.rests(0) > 0, true);
    }

    static void testGood() {
        about("GOOD of PAINS: what all MAKE less all costs");
        WhoseKiln x = of("person a costs 1 20 300;person b costs 4;person c costs 7 7 50;thing t;makes 999 with t;makes 0-100*c with b;");
        due("good(0)", x.good(0), 999);
        due("good(1)", x.good(1), 998);
        due("good(7)", x.good(7), 695);
        due("good(55)", x.good(55), 999 - 300 - 4 - 50 - 300);
        for (int owners = 0; owners < 8; owners++) {
            x.own(0, owners, 1);
            due("good(4), whoever owns", x.good(4), 995);
        }
        for (int bad : new int[] {-1, 8, 9, 64, 256, MIN, MAX}) {
            fails("good(" + bad + ")", () -> x.good(bad));
            due("lost(" + bad + ")", x.lost(bad), NONE);
        }
        fails("good(0) of nobody", () -> of("thing t;makes 5 with t;").good(0));
        due("lost(0) of nobody", of("thing t;makes 5 with t;").lost(0), NONE);
    }

    static void testBest() {
        about("BEST PAINS: of the greatest GOOD, of equal ones the least number");
        String[] lines = {"", "makes 9*(a=1) with a;", "makes 2*a with a;", "makes a with a;", "makes 9*(a+b*10=11) with a b;", "makes 9*(a+b*10=33) with a b;",
            "makes 9*(0<a)*(0<b) with a b;", "makes 0-9 with a;", "makes 20*(3<a+b) with a;", "makes 30*(b=3) with b;"};
        int[] numbers = {0, 1, 3, 0, 5, 15, 5, 0, 7, 12};
        int[] goods = {0, 8, 3, 0, 7, 3, 7, -9, 16, 27};
        for (int i = 0; i < lines.length; i++) {
            WhoseKiln x = of("person a costs 1 2 3;person b costs 1 2 3;" + lines[i]);
            due("best(0) with " + lines[i], x.best(0), numbers[i]);
            due("best(1) with " + lines[i], x.best(1), goods[i]);
            due("lost by the best", x.lost(numbers[i]), 0);
            due("lost(10)", x.lost(10), goods[i] - x.good(10));
            for (int what : new int[] {-1, 2, MIN, MAX}) {
                fails("best(" + what + ")", () -> x.best(what));
            }
        }
        WhoseKiln last = of("person a costs 1 2 3;person b costs 1 2 3;person c costs 1 2 3;person d costs 1 2 3;makes 99*(a+b+c+d=12) with t;"
            .replace("makes", "thing t;makes"));
        due("best(0), the last of all", last.best(0), 255);
        due("best(1)", last.best(1), 87);
        due("lost(0)", last.lost(0), 87);
        due("lost(254)", last.lost(254), 98);
        fails("best(0) of nobody", () -> of("thing t;").best(0));
        fails("best(1) of nobody", () -> of("thing t;").best(1));
    }

    static void testRests() {
        about("All RESTS, what 0: how many, 1: the PAINS of the least GOOD, 2: of the greatest (of equal ones the least number)");
        WhoseKiln x = of("person a costs 1 1;person b costs 1 1;makes 9*(a=b)*(1<a+b) with a b;makes (a=b)*(a=1) with a;");
        due("rests(0)", x.rests(0), 3);
        due("rests(1)", x.rests(1), 0);
        due("rests(2)", x.rests(2), 5);
        WhoseKiln equal = of("person a costs 1 1;person b costs 1 1;makes 9*(a=b)*(1<a+b) with a b;");
        due("rests(0)", equal.rests(0), 3);
        due("rests(2), of equal ones the least", equal.rests(2), 5);
        WhoseKiln low = of("person a costs 1 1;person b costs 1 1;makes 9*(a=b) with a b;");
        due("rests(1), of equal ones the least", low.rests(1), 5);
        due("rests(2)", low.rests(2), 0);
        WhoseKiln last = of("person a costs 0 0 0;person b costs 0 0 0;person c costs 0 0 0;person d costs 0 0 0;makes a+b+c+d with a b c d;");
        due("rests(0) of one", last.rests(0), 1);
        due("rests(1), the last of all", last.rests(1), 255);
        due("rests(2), the last of all", last.rests(2), 255);
        WhoseKiln all = of("person a costs 0 0 0;person b costs 0 0 0;person c costs 0 0 0;person d costs 0 0 0;");
        due("rests(0) of all", all.rests(0), 256);
        WhoseKiln below = of("person a costs 1;makes 0-9 with a;");
        due("rests(1) of one below 0", below.rests(1), 0);
        due("rests(2) of one below 0", below.rests(2), 0);
        about("NONE: another what, nobody, none (1, 2)");
        WhoseKiln chase = of(CHASE);
        due("rests(0), none", chase.rests(0), 0);
        due("rests(1), none", chase.rests(1), NONE);
        due("rests(2), none", chase.rests(2), NONE);
        for (int what : new int[] {-1, 3, MIN, MAX}) {
            due("rests(" + what + ")", x.rests(what), NONE);
        }
        for (int what = 0; what <= 2; what++) {
            due("rests(" + what + ") of nobody", of("thing t;").rests(what), NONE);
        }
    }

    static int reachedByLevers(int number) {
        return (number % 6 == 0 ? 1 : 0) + (number / 6 % 6 == 1 ? 2 : 0) + (number / 36 == 3 ? 4 : 0);
    }

    static void testPlainNumbers() {
        about("a number, THING by THING, the first THING the last digit, in digits to the base of how many PEOPLE there are and 2");
        WhoseKiln x = levers();
        due("count(3)", x.count(3), 216);
        for (int number = 0; number < 216; number++) {
            due("reached(" + number + ")", x.reached(number), reachedByLevers(number));
        }
        for (int bad : new int[] {-1, 216, 217, 1 << 16, MIN, MAX}) {
            fails("reached(" + bad + ")", () -> x.reached(bad));
        }
        due("rest(0), the owning is as it was", x.rest(0), 0);
        due("owner(0, 0)", x.owner(0, 0), 0);
        int[] counts = {1, 3, 9, 27, 1, 4, 16, 64, 1, 5, 25, 125, 1, 6, 36, 216};
        for (int n = 1; n <= 4; n++) {
            for (int t = 0; t <= 3; t++) {
                WhoseKiln y = of(FOUR.substring(0, 17 * n) + "thing t;thing u;thing v;".substring(0, 8 * t));
                int count = counts[4 * (n - 1) + t];
                due("count(3) of " + n + " and " + t, y.count(3), count);
                due("reached of the last", y.reached(count - 1), 0);
                fails("reached beyond the last", () -> y.reached(count));
            }
        }
        for (int t = 0; t <= 3; t++) {
            WhoseKiln nobody = of("thing t;thing u;thing v;".substring(0, 8 * t));
            due("count(3) of nobody", nobody.count(3), 0);
            fails("reached(0) of nobody", () -> nobody.reached(0));
        }
    }

    static void testPlainKinds() {
        about("each THING has one OWNER, or all PEOPLE with NEED of all, or none: p: person p, then all, then none");
        // One needs a third of it, one a half, one all.
        WhoseKiln x = of("person a costs 3;person b costs 3;person c costs 3;thing t;makes 8*a with a t;");
        int[] reached = {5, 5, 5, 0, 0};
        for (int number = 0; number < 5; number++) {
            due("reached(" + number + "), a half is enough", x.reached(number), reached[number]);
        }
        x.own(0, 7, 1);
        due("rest(2), need of one is another owning", x.rest(2), 5);
        x.own(0, 7, 3);
        due("rest(2) by need of all", x.rest(2), 0);
        WhoseKiln one = of("person a costs 3;thing t;makes 8*a with a t;");
        for (int number = 0; number < 3; number++) {
            due("reached(" + number + ") of one alone", one.reached(number), 5);
        }
        WhoseKiln half = of("person a costs 5;person b costs 3;thing t;makes 8*a with a t;");
        int[] alone = {3, 0, 0, 0};
        for (int number = 0; number < 4; number++) {
            due("reached(" + number + "), a half is not enough", half.reached(number), alone[number]);
        }
    }

    static void testFirst() {
        about("FIRST among them: the greatest REACHED, of equal ones the least number");
        WhoseKiln x = levers();
        due("first(0)", x.first(0), 114);
        due("first(1)", x.first(1), 1);
        due("first(2)", x.first(2), 0);
        for (int what : new int[] {-1, 3, MIN, MAX}) {
            due("first(" + what + ")", x.first(what), NONE);
        }
        // Of the later owning the second thing is d's, whatever is asked about: b takes no pains any more.
        x.later(1, 8, 1);
        x.chance(10);
        due("first(0) by later", x.first(0), 108);
        due("first(1) by later", x.first(1), 6);
        x.chance(0);
        due("first(0) without a chance", x.first(0), 114);
        for (int what = 0; what <= 2; what++) {
            due("first(" + what + ") of nobody", of("thing t;").first(what), NONE);
        }
        WhoseKiln none = of("person a costs 1;makes a*5 with a;");
        due("first(0) without things", none.first(0), 0);
        due("first(1) without things", none.first(1), 1);
        due("first(2) without things", none.first(2), 0);
    }

    static void testFirstOfEqual() {
        about("what 0: its number, 1: how many REACH as much, 2: how many REACH nothing; NONE: none REACHES anything (0, 1)");
        WhoseKiln x = of("person a costs 4;person b costs 2;thing t;makes 7*b with b t;");
        // A half of 7 is enough.
        due("first(0), all alike", x.first(0), 0);
        due("first(1), all alike", x.first(1), 4);
        WhoseKiln last = of("person a costs 4;person b costs 2;thing t;makes 0-9*b with a;makes 5*b with b t;");
        // Owning tempts b alone and a loses by it; a half of 5 does, too.
        last.bargain(2, 0);
        due("first(0), the first without b", last.first(0), 0);
        due("first(1)", last.first(1), 3);
        due("reached(1)", last.reached(1), -6);
        WhoseKiln low = of("person a costs 1;thing t;makes 0-5 with a;");
        due("first(0) below 0", low.first(0), 0);
        due("first(1) below 0", low.first(1), 3);
        due("gap() below 0", low.gap(), 0);
        due("joint(0) below 0", low.joint(0), 0);
        WhoseKiln chase = of(CHASE + "thing l;");
        due("first(0) of a chase", chase.first(0), NONE);
        due("first(1) of a chase", chase.first(1), NONE);
        due("first(2) of a chase", chase.first(2), 16);
        WhoseKiln some = of(CHASED_AS_OWNER);
        due("first(0) where one reaches nothing", some.first(0), 0);
        due("first(1) where one reaches nothing", some.first(1), 3);
        due("first(2) where one reaches nothing", some.first(2), 1);
    }

    static void testGap() {
        about("GAP: that less REACHED by the OWNING as it is");
        WhoseKiln x = levers();
        due("gap()", x.gap(), 7);
        x.own(0, 1, 1);
        due("gap()", x.gap(), 6);
        x.own(2, 8, 1);
        due("gap()", x.gap(), 2);
        x.own(1, 3, 1);
        due("gap(), an owning that is not plain", x.gap(), 0);
        x.own(1, 3, 2);
        due("gap()", x.gap(), 2);
        x.later(2, 1, 1);
        x.chance(10);
        // d has nothing of it later, whoever owns it now.
        due("gap() by later", x.gap(), 2);
        // An owning that is not plain may reach more than all that are.
        WhoseKiln y = of("person a costs 5;person b costs 5;thing t;makes 6*a with a t;makes 6*b with b t;");
        y.own(0, 3, 1);
        due("gap() below 0, but for NONE", y.gap(), -1);
        WhoseKiln z = of("person a costs 5;person b costs 5;thing t;makes 9*a with a t;makes 9*b with b t;");
        z.own(0, 3, 1);
        due("gap() below 0", z.gap(), -4);
        about("NONE: nobody, none REACHES anything, the OWNING as it is does not");
        due("gap() of nobody", of("thing t;").gap(), NONE);
        due("gap() of a chase", of(CHASE).gap(), NONE);
        WhoseKiln some = of(CHASED_AS_OWNER);
        due("gap()", some.gap(), 0);
        some.own(0, 2, 1);
        due("gap() as b's", some.gap(), NONE);
    }

    static void testJoint() {
        about("JOINT: all THINGS owned by all: how many PLAIN OWNINGS that REACH something REACH less, how many more");
        WhoseKiln x = levers();
        due("joint(0)", x.joint(0), 0);
        due("joint(1)", x.joint(1), 91);
        // a's pains are no good: those in which a has t alone reach less than all together.
        WhoseKiln y = of("person a costs 1;person b costs 1;thing t;thing u;makes 2*a with a t;makes 0-5*a with b;makes 3*b with b u;");
        y.bargain(1, 0);
        due("reached(10)", y.reached(10), 2);
        due("joint(0)", y.joint(0), 4);
        due("joint(1)", y.joint(1), 0);
        for (int what : new int[] {-1, 2, MIN, MAX}) {
            due("joint(" + what + ")", x.joint(what), NONE);
        }
        WhoseKiln some = of(CHASED_AS_OWNER);
        due("joint(0), one reaches nothing", some.joint(0), 0);
        due("joint(1), one reaches nothing", some.joint(1), 0);
        due("joint(0) of nobody", of("thing t;").joint(0), NONE);
        due("joint(1) of nobody", of("thing t;").joint(1), NONE);
        // Two chase one another unless b stands still as the only owner.
        WhoseKiln none = of(CHASE + "makes 15*(1-b) with b k;");
        due("joint(0), it reaches nothing", none.joint(0), NONE);
        due("joint(1), it reaches nothing", none.joint(1), NONE);
        due("first(0), another one does", none.first(0), 1);
        WhoseKiln things = of("person a costs 1;makes 3*a with a;");
        due("joint(0) without things", things.joint(0), 0);
        due("joint(1) without things", things.joint(1), 0);
    }

    static void apart(String text, int a, int b, int want) {
        WhoseKiln x = of(text);
        due("apart(" + a + ", " + b + ") of " + text, x.apart(a, b), want);
        due("apart(" + b + ", " + a + ") of " + text, x.apart(b, a), want);
    }

    static void testApart() {
        about("Two THINGS are worth NOTHING APART if neither makes the WORTH of any set of PEOPLE by any PAINS with any THINGS "
            + "that lack the other one more");
        String one = "person a costs 1;thing t;thing u;thing v;";
        apart(one, 0, 1, 1);
        apart(one + "makes 5 with a t u;", 0, 1, 1);
        apart(one + "makes 5 with a t;", 0, 1, 0);
        apart(one + "makes 5 with a u;", 0, 1, 0);
        apart(one + "makes 5 with a t;", 1, 2, 1);
        apart(one + "makes 5 with t;", 0, 1, 0);
        apart(one + "makes 5 with a t v;", 0, 1, 0);
        apart(one + "makes 5 with a u v;", 0, 1, 0);
        apart(one + "makes 5 with a t u v;", 0, 1, 1);
        apart(one + "makes 5 with a t u v;", 0, 2, 1);
        apart(one + "makes 5 with a t u v;", 1, 2, 1);
        apart(one + "makes 5 with a v;makes 1 with a t u;", 0, 1, 1);
        apart(one + "makes 5 with a;makes a with v;", 0, 1, 1);
        // Of a alone it is more, of both and of nobody it is not.
        String two = "person a costs 1;person b costs 1;thing t;thing u;";
        apart(two + "makes 5 with a t;makes 0-5 with b t;", 0, 1, 0);
        apart(two + "makes 5 with b t;makes 0-5 with a t;", 0, 1, 0);
        apart(two + "makes 5 with a b t;", 0, 1, 0);
        apart(two + "makes 5 with t;makes 0-5 with a t;makes 0-5 with b t;", 0, 1, 0);
        // Less is not more; as much is not more.
        apart(one + "makes 0-5 with a t;", 0, 1, 1);
        apart(one + "makes 0*a with a t;", 0, 1, 1);
        apart(one + "makes 1-a with a t;", 0, 1, 0);
        apart(one + "makes a with a t;", 0, 1, 0);
        // Less beside a third thing and more without it.
        apart(one + "makes 5 with t;makes 0-9 with t v;", 0, 1, 0);
        apart(one + "makes 0-5 with t;makes 9 with t v;", 0, 1, 0);
    }

    static void testApartEdges() {
        String full = "person a costs 1 1 1;person b costs 1 1 1;person c costs 1 1 1;person d costs 1 1 1;thing t;thing u;thing v;";
        apart(full + "makes a+b+c+d=12 with a b c d v;", 0, 2, 0);
        apart(full + "makes a+b+c+d=12 with a b c d t v;", 0, 2, 1);
        apart(full + "makes a+b+c+d=0 with d t;", 0, 2, 0);
        apart(full + "makes a+b*10+c*100+d*1000=1230 with c u;", 1, 2, 0);
        // What is cut away is not more.
        apart("person a costs 1;thing t;thing u;makes 9999*99 with a;makes 5 with a t;", 0, 1, 1);
        apart("person a costs 1;thing t;thing u;makes 9999*10+8 with a;makes 5 with a t;", 0, 1, 0);
        about("Whether two THINGS are worth NOTHING APART: 1 or 0; NONE: others, the same");
        WhoseKiln x = of(full);
        for (int bad : new int[] {-1, 3, 4, 32, MIN, MAX}) {
            due("apart(" + bad + ", 0)", x.apart(bad, 0), NONE);
            due("apart(0, " + bad + ")", x.apart(0, bad), NONE);
            fails("oneHand(" + bad + ", 0)", () -> x.oneHand(bad, 0));
            fails("oneHand(0, " + bad + ")", () -> x.oneHand(0, bad));
        }
        for (int thing = 0; thing < 3; thing++) {
            int t = thing;
            due("apart of the same", x.apart(t, t), NONE);
            fails("oneHand of the same", () -> x.oneHand(t, t));
        }
        // Whose things are and what is bargained is nothing to it.
        x.own(0, 1, 1);
        x.bargain(2, 1);
        due("apart(0, 1)", x.apart(0, 1), 1);
        apart("thing t;thing u;makes 5 with t u;", 0, 1, 1);
        apart("thing t;thing u;makes 5 with t;", 0, 1, 0);
    }

    static void testOneHand() {
        about("ONE HAND: the greatest REACHED by PLAIN OWNINGS in which both have the same digit, less that by others");
        WhoseKiln x = levers();
        due("oneHand(0, 1)", x.oneHand(0, 1), -1);
        due("oneHand(1, 0)", x.oneHand(1, 0), -1);
        due("oneHand(0, 2)", x.oneHand(0, 2), -1);
        due("oneHand(1, 2)", x.oneHand(1, 2), -2);
        due("oneHand(2, 1)", x.oneHand(2, 1), -2);
        WhoseKiln y = of(FOUR + "thing t;thing u;thing v;makes 9*a with a u v;makes 0-d with t;");
        y.bargain(2, 2);
        // a takes pains where a has u and v.
        due("oneHand(1, 2)", y.oneHand(1, 2), 8);
        due("oneHand(0, 1)", y.oneHand(0, 1), 0);
        due("oneHand(0, 2)", y.oneHand(0, 2), 0);
        // Both by all together, both by nobody: the same digit, too.
        WhoseKiln z = of("person a costs 5;person b costs 5;thing t;thing u;makes 0-9*a with b;makes 6*a with a t;makes 6*a with a u;");
        z.bargain(2, 1);
        due("oneHand(0, 1)", z.oneHand(0, 1), 0);
        // Who owns one alone is tempted, by 6 and 3 at least for 7, to the other's loss.
        WhoseKiln tempted = of("person a costs 7;person b costs 7;thing t;thing u;makes 6*a with a t;makes 6*a with a u;makes 0-20*a with b;"
            + "makes 6*b with b t;makes 6*b with b u;makes 0-20*b with a;");
        due("reached(0), both a's", tempted.reached(0), -15);
        due("reached(10), both of all", tempted.reached(10), 0);
        due("reached(15), both nobody's", tempted.reached(15), 0);
        due("reached(11), of all and nobody's", tempted.reached(11), 0);
        due("oneHand(0, 1)", tempted.oneHand(0, 1), 0);
        WhoseKiln low = of("person a costs 1;person b costs 1;thing t;thing u;makes 0-7 with a;");
        due("oneHand(0, 1) below 0", low.oneHand(0, 1), 0);
    }

    static void testOneHandWithoutEnd() {
        about("NoSuchElementException: nobody, one of both sorts REACHES nothing");
        fails("oneHand of nobody", () -> of("thing t;thing u;").oneHand(0, 1));
        fails("oneHand of a chase", () -> of(CHASE + "thing u;").oneHand(0, 1));
        // The chase ends where b has both.
        WhoseKiln x = of(CHASE + "thing u;makes 15*(1-b) with b k u;");
        due("first(0)", x.first(0), 5);
        due("first(1)", x.first(1), 1);
        fails("oneHand where the others reach nothing", () -> x.oneHand(0, 1));
        // The chase ends where a has one of them alone.
        WhoseKiln y = of(CHASE + "thing u;makes 30*a with a k;makes 0-30*a with a u;");
        y.bargain(2, 1);
        due("first(2)", y.first(2), 10);
        for (int both = 0; both < 4; both++) {
            int number = 5 * both;
            fails("reached(" + number + ")", () -> y.reached(number));
        }
        fails("oneHand where the same reach nothing", () -> y.oneHand(0, 1));
    }
}
