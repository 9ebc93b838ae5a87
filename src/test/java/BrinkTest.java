/**
 * Terms 5 at its very edges: what one gets or decides by is as much as the other way would leave, or a 120th more or
 * less. No two SHARES of four PEOPLE differ by less: means are twelfths of all orders, chances are tenths.
 */
public final class BrinkTest extends Due {
    static final int PART = 120;
    static final int BUYER = 1;
    // Behind this much more by the thing the buyer pays any price.
    static final int LURE = 9999 * 9;
    static final int[] PRICES = {1, 2, 3, 7, 10, 61, 9998, 9999};
    static final int[] SUMS = {2, 3, 10, 9998, 9999};

    public static void main(String[] args) {
        testMoreForTheBuyer();
        testMoreForOneAmongOwners();
        testMoreWithoutOwners();
        testPaidToOwners();
        testPaidUnlessOneSteps();
        testPaidByTheBuyer();
        testBuyerStepsAway();
        testNoPaymentToOthers();
        testShareAndSum();
        testByOtherBargains();
        testDebtorSteps();
        testDebtorStepsAway();
        testNobodyGetsTheSum();
        testPledgeIsLost();
        end("the edges of Terms 5 hold");
    }

    static char letter(int person) {
        return "abcd".charAt(person);
    }

    static String number(int value) {
        return value <= 9999 ? "" + value : "(9999*" + value / 9999 + "+" + value % 9999 + ")";
    }

    static String line(String when, int value, String with) {
        return "makes " + (value < 0 ? "0-" : "") + when + "*" + number(Math.abs(value)) + " with " + with + ";";
    }

    /** Lines by which one's SHARE is that many 120ths more: -39 with u, by the chance of ten, and 40 of a third. */
    static String parts(int person, String when, int parts) {
        char who = letter(person);
        String others = person == 0 ? " b c" : person == 1 ? " a c" : " a b";
        return line(when, -parts, who + " u") + line(when, parts, who + others);
    }

    /** All stay at 0 but for one whose STEP costs 1; u is of all, and later, by one of ten, of that one alone. */
    static WhoseKiln with(int mover, String lines) {
        StringBuilder s = new StringBuilder();
        for (int person = 0; person < 4; person++) {
            s.append("person ").append(letter(person)).append(" costs ").append(person == mover ? 1 : 999).append(';');
        }
        WhoseKiln x = of(s + "thing t;thing u;" + lines);
        x.own(1, 15, 4);
        x.later(1, 1 << mover, 1);
        x.chance(1);
        return x;
    }

    static void bought(String of, WhoseKiln x, int price, int pains, boolean bought) {
        due("right(0, 1, " + price + ", 0) " + of, x.right(0, BUYER, price, 0), pains);
        due("right(0, 1, " + price + ", 2) " + of, x.right(0, BUYER, price, 2), bought ? 1 : 0);
    }

    static void paid(String of, WhoseKiln x, int sum, int pains, boolean paid) {
        due("lender(0, 0, " + sum + ", 0) " + of, x.lender(0, 0, sum, 0), pains);
        due("lender(0, 0, " + sum + ", 2) " + of, x.lender(0, 0, sum, 2), paid ? 1 : 0);
    }

    /**
     * Where t is of three by need of all, b has a third of what b makes by it, a fourth of what b and d make: as the
     * only owner all and a half of that.
     */
    static WhoseKiln gaining(int owners, int twelfths) {
        int second = Math.floorMod(3 * twelfths, 8);
        int first = (twelfths - 3 * second) / 8;
        WhoseKiln x = with(0, line("1", first, "b t") + line("1", second, "b d t"));
        x.own(0, owners, Integer.bitCount(owners));
        return x;
    }

    static void testMoreForTheBuyer() {
        about("does so if that leaves more for the buyer");
        for (int price : new int[] {0, 1, 2, 59, 60, 700, 9998, 9999}) {
            for (int d = -2; d <= 2; d++) {
                String of = "at " + d + " 12ths";
                bought(of, gaining(5, 12 * price + d), price, 0, d > 0);
                if (price <= 700) {
                    // Later it is a's, whoever buys it now: nine of ten of what is more are none then.
                    WhoseKiln x = gaining(5, PART * price + d);
                    x.later(0, 1, 1);
                    x.chance(9);
                    bought(of + " of a tenth", x, price, 0, d > 0);
                }
            }
        }
    }

    static void testMoreForOneAmongOwners() {
        about("paid in even parts to those who are its OWNERS, the buyer among them; does so if that leaves more");
        for (int price : new int[] {0, 1, 2, 59, 60, 700, 9998, 9999}) {
            for (int d = -2; d <= 2; d++) {
                String of = "of three owners, at " + d + " 12ths";
                bought(of, gaining(7, 8 * price + d), price, 0, d > 0);
                if (price <= 700) {
                    WhoseKiln x = gaining(7, 80 * price + d);
                    x.later(0, 1, 1);
                    x.chance(9);
                    bought(of + " of a tenth", x, price, 0, d > 0);
                }
            }
        }
        for (int price = 0; price <= 40; price++) {
            // Of two owners b pays a half; of 2 more b has 1 by both already.
            for (int made = Math.max(0, price - 1); made <= price + 1; made++) {
                WhoseKiln x = with(0, line("1", made, "b t"));
                x.own(0, 3, 2);
                bought("of two owners, " + made + " more", x, price, 0, made > price);
            }
            // Of four owners b pays three fourths, and has a fourth of it already.
            for (int made = Math.max(0, price - 1); made <= price + 1; made++) {
                WhoseKiln x = with(0, line("1", made, "b t"));
                x.own(0, 15, 4);
                bought("of four owners, " + made + " more", x, price, 0, made > price);
            }
        }
    }

    static void testMoreWithoutOwners() {
        about("(to nobody if there are none)");
        for (int price = 0; price <= 60; price++) {
            // All together have it: of what b makes by it b has a fourth, of what b and d make a fourth of a half.
            for (int fourths = -2; fourths <= 2; fourths++) {
                int wanted = 4 * price + fourths;
                int second = Math.floorMod(wanted, 3);
                WhoseKiln x = with(0, line("1", (wanted - second) / 3, "b t") + line("1", second, "b d t"));
                bought("at " + fourths + " 4ths", x, price, 0, fourths > 0);
            }
        }
    }

    interface Owned {
        void by(int owners, int need, int price);
    }

    /** All owners by whom the buyer has not t alone, and all prices. */
    static void eachOwning(Owned owned) {
        for (int owners = 1; owners < 16; owners++) {
            boolean among = (owners >> BUYER & 1) == 1;
            for (int need = among ? 2 : 1; need <= Integer.bitCount(owners); need++) {
                for (int price : PRICES) {
                    owned.by(owners, need, price);
                }
            }
        }
    }

    static int partOf(int price, int owners, int person) {
        return (owners >> person & 1) == 1 ? PART / Integer.bitCount(owners) * price : 0;
    }

    static String told(int owners, int need, int d) {
        return "owners " + owners + " need " + need + ", at " + d + " 120ths";
    }

    static void testPaidToOwners() {
        about("paid in even parts to those who are its OWNERS: one steps for it, at what it is worth");
        eachOwning((owners, need, price) -> {
            int got = partOf(price, owners, 0);
            int toll = got / PART;
            for (int d = -1; d <= 1; d++) {
                // By a's step b buys; a has the part of the price less the toll and the cost.
                WhoseKiln x = with(0, line("a", LURE, "b t") + line("a", -toll, "a")
                    + parts(0, "a", d + PART * (toll + 1) - got));
                x.own(0, owners, need);
                bought(told(owners, need, d), x, price, d > 0 ? 1 : 0, d > 0);
            }
        });
    }

    static void testPaidUnlessOneSteps() {
        about("paid in even parts to those who are its OWNERS: one stands still for it, at what it is worth");
        eachOwning((owners, need, price) -> {
            int got = partOf(price, owners, 0);
            int gain = got / PART + 1;
            for (int d = -1; d <= 1; d++) {
                WhoseKiln x = with(0, line("(1-a)", LURE, "b t") + line("a", gain, "a")
                    + parts(0, "a", d + got - PART * (gain - 1)));
                x.own(0, owners, need);
                bought(told(owners, need, d), x, price, d > 0 ? 1 : 0, d <= 0);
            }
        });
    }

    static void testPaidByTheBuyer() {
        about("may have it as the only OWNER for that: the buyer steps for it, at what it is worth");
        eachOwning((owners, need, price) -> {
            int back = partOf(price, owners, BUYER);
            int toll = LURE - price - 1 + back / PART;
            for (int d = -1; d <= 1; d++) {
                WhoseKiln x = with(BUYER, line("b", LURE, "b t") + line("b", -toll, "b")
                    + parts(BUYER, "b", d - back % PART));
                x.own(0, owners, need);
                bought(told(owners, need, d), x, price, d > 0 ? 4 : 0, d > 0);
            }
        });
    }

    static void testBuyerStepsAway() {
        about("may have it as the only OWNER for that: the buyer stands still for it, at what it is worth");
        eachOwning((owners, need, price) -> {
            int back = partOf(price, owners, BUYER);
            int gain = LURE - price + 1 + back / PART;
            for (int d = -1; d <= 1; d++) {
                WhoseKiln x = with(BUYER, line("(1-b)", LURE, "b t") + line("b", gain, "b")
                    + parts(BUYER, "b", d + back % PART));
                x.own(0, owners, need);
                bought(told(owners, need, d), x, price, d > 0 ? 4 : 0, d <= 0);
            }
        });
    }

    static void testNoPaymentToOthers() {
        about("(to nobody if there are none)");
        for (int price : PRICES) {
            for (int d = -1; d <= 1; d++) {
                WhoseKiln x = with(0, line("a", LURE, "b t") + parts(0, "a", d + PART));
                bought("without owners, at " + d + " 120ths", x, price, d > 0 ? 1 : 0, d > 0);
                WhoseKiln y = with(0, line("(1-a)", LURE, "b t") + parts(0, "a", d + PART));
                bought("without owners, at " + d + " 120ths", y, price, d > 0 ? 1 : 0, d <= 0);
            }
        }
    }

    static void testShareAndSum() {
        about("if one's SHARE is not below the sum it is paid; else it is not");
        for (int sum : new int[] {0, 1, 2, 9998, 9999}) {
            for (int d = -3; d <= 3; d++) {
                String of = "at " + d + " 120ths";
                WhoseKiln x = with(0, line("1", sum, "a") + parts(0, "1", d));
                paid(of, x, sum, 0, d >= 0);
                // By the pledge, too: it is one's SHARE as long as it is not lost.
                WhoseKiln pledge = with(0, line("1", sum, "a t") + parts(0, "1", d));
                pledge.own(0, 1, 1);
                paid(of + " by the pledge", pledge, sum, 0, d >= 0);
                // The share, not what is left of it: one steps, as standing still one has 999 less than nothing.
                WhoseKiln y = with(0, line("1", sum, "a") + parts(0, "1", d) + line("(1-a)", -sum - 999, "a"));
                paid(of + " behind a step", y, sum, 1, d >= 0);
            }
        }
    }

    static void testByOtherBargains() {
        about("SHARES by even parts and by one who asks: more for the buyer, and not below the sum");
        for (int sum : new int[] {0, 1, 2, 7, 60, 700}) {
            for (int d = -2; d <= 2; d++) {
                // Of what a makes by u, a's own later by one of ten, a has 13 of 40 parts; of what three make a fourth.
                WhoseKiln even = with(0, line("1", sum, "a") + line("1", -3 * d, "a u") + line("1", 4 * d, "a b c"));
                even.bargain(1, 2);
                paid("by even parts at " + d + " 40ths", even, sum, 0, d >= 0);
                WhoseKiln asks = with(0, line("1", sum, "a") + line("1", d, "a u") + line("1", 99, "a b c"));
                asks.bargain(2, 2);
                paid("where c asks at " + d + " tenths", asks, sum, 0, d >= 0);
                // Of what a makes by t b has nothing, and a fourth as its owner; one of ten of that, as t is a's later.
                WhoseKiln buys = with(0, line("1", 40 * sum + d, "a t"));
                buys.own(0, 1, 1);
                buys.later(0, 1, 1);
                buys.chance(9);
                buys.bargain(1, 2);
                bought("by even parts at " + d + " 40ths", buys, sum, 0, d > 0);
                WhoseKiln rest = with(0, line("1", 10 * sum + d, "a t"));
                rest.own(0, 1, 1);
                rest.later(0, 1, 1);
                rest.chance(9);
                rest.bargain(2, BUYER);
                bought("where b asks at " + d + " tenths", rest, sum, 0, d > 0);
                WhoseKiln alone = with(0, line("1", 10 * sum + d, "b t") + line("1", 99, "a b"));
                alone.own(0, 1, 1);
                alone.later(0, 1, 1);
                alone.chance(9);
                alone.bargain(2, 2);
                bought("where c asks at " + d + " tenths", alone, sum, 0, d > 0);
            }
        }
    }

    static void testDebtorSteps() {
        about("a LENDER has a sum to get from one: one steps to pay it, at what is left");
        for (int sum : SUMS) {
            for (int d = -1; d <= 1; d++) {
                WhoseKiln x = with(0, line("a", sum + 1, "a") + parts(0, "a", d));
                x.own(0, 1, 1);
                paid("at " + d + " 120ths", x, sum, d > 0 ? 1 : 0, d > 0);
            }
        }
    }

    static void testDebtorStepsAway() {
        about("a LENDER has a sum to get from one: one steps not to pay it, at what is left");
        for (int sum : SUMS) {
            for (int d = -1; d <= 1; d++) {
                WhoseKiln x = with(0, line("(1-a)", sum, "a") + parts(0, "a", d + PART));
                x.own(0, 1, 1);
                paid("at " + d + " 120ths", x, sum, d > 0 ? 1 : 0, d <= 0);
            }
        }
    }

    static void testNobodyGetsTheSum() {
        about("it is paid: to the lender, to none of the PEOPLE");
        for (int sum : SUMS) {
            for (int d = -1; d <= 1; d++) {
                for (int owners = 0; owners < 16; owners++) {
                    String of = "c steps, owners " + owners + ", at " + d + " 120ths";
                    WhoseKiln x = with(2, line("c", sum, "a") + parts(2, "c", d + PART) + line("c", sum, "a"));
                    x.own(0, owners, 1);
                    paid(of, x, sum, d > 0 ? 16 : 0, d > 0);
                    WhoseKiln y = with(2, line("(1-c)", sum + 99, "a") + parts(2, "c", d + PART) + line("c", -99, "a"));
                    y.own(0, owners, 1);
                    paid(of, y, sum, d > 0 ? 16 : 0, d <= 0);
                }
            }
        }
    }

    static void testPledgeIsLost() {
        about("else it is not, and the THING has no OWNERS (SHARES are by that)");
        for (int sum : SUMS) {
            for (int made = 1; made <= 8; made++) {
                for (int d = -1; d <= 1; d++) {
                    String of = "of " + made + ", at " + d + " 120ths";
                    // By c's step a can't pay, and c has a fourth of what c makes by t.
                    int lost = PART / 4 * 3 * made;
                    WhoseKiln x = with(2, line("(1-c)", sum + 99, "a") + line("1", made, "c t")
                        + parts(2, "c", d + lost + PART) + line("c", -9999, "a"));
                    x.own(0, 4, 1);
                    paid(of, x, sum, d > 0 ? 16 : 0, d <= 0);
                    // By c's step a can pay, and c has all of it.
                    WhoseKiln y = with(2, line("c", sum + 9999, "a") + line("1", made, "c t")
                        + parts(2, "c", d - lost + PART) + line("(1-c)", -99, "a"));
                    y.own(0, 4, 1);
                    paid(of, y, sum, d > 0 ? 16 : 0, d > 0);
                }
            }
        }
    }
}
