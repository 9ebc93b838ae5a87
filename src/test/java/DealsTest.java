import java.util.ArrayList;
import java.util.Arrays;
import java.util.List;
import java.util.NoSuchElementException;
import java.util.function.Consumer;

/** Each sentence of Terms 5 and 6, and of the promises that rest on them, that names a boundary case. */
public final class DealsTest extends Due {
    static final String FOUR = "person a costs 1;person b costs 1;person c costs 1;person d costs 1;";
    // What a's step brings to b by t is worth 20; b alone may want to buy t.
    static final String SOLD = "person a costs 2;person b costs 99;person c costs 99;person d costs 99;thing t;makes a*20 with b t;";

    public static void main(String[] args) {
        testWritten();
        testWriting();
        testWritingWithoutEnd();
        testPrice();
        testOnlyOwner();
        testEvenParts();
        testBuyerAmongOwners();
        testNobodyIsPaid();
        testMoreForTheBuyer();
        testAllHaveWhatThatMakes();
        testRightByChances();
        testRightLeavesAll();
        testRightPrice();
        testRightPriceEdges();
        testChance();
        testLater();
        testLaterBesidePlain();
        testLenderSum();
        testLenderShare();
        testLenderPledge();
        testLenderByChances();
        testHands();
        testLeaving();
        testEdgeRange();
        testEdgeCut();
        testEdgeOwners();
        testEdgeElse();
        testEdgePassesOver();
        testMarks();
        testMarkHoldsAll();
        testCount();
        end("the sentences of Terms 5 and 6 hold");
    }

    static void right(WhoseKiln x, int price, int pains, int good, int bought) {
        due("right(0, 1, " + price + ", 0)", x.right(0, 1, price, 0), pains);
        due("right(0, 1, " + price + ", 1)", x.right(0, 1, price, 1), good);
        due("right(0, 1, " + price + ", 2)", x.right(0, 1, price, 2), bought);
    }

    static void lender(WhoseKiln x, int person, int sum, int pains, int good, int paid) {
        String args = "(" + person + ", 0, " + sum + ", ";
        due("lender" + args + "0)", x.lender(person, 0, sum, 0), pains);
        due("lender" + args + "1)", x.lender(person, 0, sum, 1), good);
        due("lender" + args + "2)", x.lender(person, 0, sum, 2), paid);
    }

    static void testWritten() {
        about("WRITTEN are PAINS of one at a STEP: the others go by TURNS (from 0, as above, but for that one)");
        WhoseKiln one = of("person a costs 9 5 7;makes 4*a with a;");
        int[] good = {0, -5, 3, 5};
        for (int step = 0; step <= 3; step++) {
            due("written(0, " + step + ") of one alone", one.written(0, step), good[step]);
        }
        // Both or neither: by the other's written pains one takes them, too.
        WhoseKiln x = of("person a costs 1;person b costs 1;person c costs 2 3;makes 9*a*b with a b;makes 4*c with c;");
        due("rest(2)", x.rest(2), 5);
        due("written(0, 0)", x.written(0, 0), 5);
        due("written(0, 1)", x.written(0, 1), 12);
        due("written(1, 1)", x.written(1, 1), 12);
        due("written(2, 0)", x.written(2, 0), 0);
        due("written(2, 1)", x.written(2, 1), 2);
        due("written(2, 2)", x.written(2, 2), 5);
        about("NoSuchElementException: others, none");
        for (int bad : new int[] {-1, 3, 4, MIN, MAX}) {
            fails("written(" + bad + ", 0)", () -> x.written(bad, 0));
            fails("written(2, " + bad + ")", () -> x.written(2, bad));
            fails("writing(" + bad + ", 0)", () -> x.writing(bad, 0));
        }
        fails("written(0, 2)", () -> x.written(0, 2));
        WhoseKiln chase = of(CHASE + "person c costs 1;");
        fails("written beside a chase", () -> chase.written(2, 1));
        due("written of one who chases, the other stands elsewhere", chase.written(0, 0), 9);
        due("written of one who chases, the other stands there", chase.written(1, 1), 8);
    }

    static void testWriting() {
        about("WORTH WRITING: the greatest GOOD of that by a STEP, of equal ones the least, less REACHED by the OWNING as it is");
        // a lures b to step and goes on; b written ahead does so, too, a written does not.
        WhoseKiln x = of("person a costs 1 1;person b costs 2;makes 10*(a=1)*(b=0)+20*(a=2)*(b=1) with a;makes 5*(a=1)*b+2*(a=2)*b with b;");
        due("rest(0)", x.rest(0), 6);
        due("rest(2)", x.rest(2), 19);
        due("written(0, 0)", x.written(0, 0), 0);
        due("written(0, 1)", x.written(0, 1), 2);
        due("written(0, 2)", x.written(0, 2), -1);
        due("writing(0, 0)", x.writing(0, 0), 1);
        due("writing(0, 1), below 0", x.writing(0, 1), -17);
        due("writing(1, 0)", x.writing(1, 0), 1);
        due("writing(1, 1)", x.writing(1, 1), 0);
        WhoseKiln equal = of("person a costs 1 2 3;makes a with a;");
        due("writing(0, 0), all equal", equal.writing(0, 0), 0);
        due("writing(0, 1), all equal", equal.writing(0, 1), 0);
        WhoseKiln last = of("person a costs 2 4 6;person b costs 9;makes 3*a with a b;");
        due("writing(0, 0), the last step", last.writing(0, 0), 3);
        due("writing(0, 1)", last.writing(0, 1), 3);
        WhoseKiln middle = of("person a costs 2 4 9;person b costs 9;makes 3*a with a b;");
        due("writing(0, 0)", middle.writing(0, 0), 2);
        WhoseKiln least = of("person a costs 1;person b costs 9;makes 9*(1-a) with b;makes 2*a with a;");
        due("writing(0, 0), none", least.writing(0, 0), 0);
        due("writing(0, 1), none", least.writing(0, 1), 8);
        WhoseKiln below = of("person a costs 5 4;makes 0-9 with a;makes 0-9*(a=0) with a;");
        due("writing(0, 0) below 0", below.writing(0, 0), 2);
        due("writing(0, 1) below 0", below.writing(0, 1), 0);
        for (int what : new int[] {-1, 2, MIN, MAX}) {
            fails("writing(0, " + what + ")", () -> x.writing(0, what));
        }
        fails("writing(2, 0)", () -> x.writing(2, 0));
        fails("writing of nobody", () -> of("thing t;").writing(0, 0));
    }

    static void testWritingWithoutEnd() {
        about("writing: others, none, nothing REACHED as it is");
        WhoseKiln chase = of(CHASE + "person c costs 1;");
        for (int what = 0; what <= 1; what++) {
            int w = what;
            fails("writing(0, " + w + "), nothing reached as it is", () -> chase.writing(0, w));
            fails("writing(2, " + w + "), none", () -> chase.writing(2, w));
        }
        // By c's second step alone the chase has no end: that one is passed over.
        String some = "person a costs 1;person b costs 1;person c costs 1 1;"
            + "makes 10*(a=b)*(c=2) with a;makes 10*(1-(a=b))*(c=2) with b;makes 9*c-99*(c=2) with c;";
        due("writing(2, 0)", of(some).writing(2, 0), 1);
        due("writing(2, 1)", of(some).writing(2, 1), 0);
        fails("written(2, 2)", () -> of(some).written(2, 2));
        // By c's standing still alone it has none; c steps.
        String still = "person a costs 1;person b costs 1;person c costs 1 5;"
            + "makes 10*(a=b)*(c=0) with a;makes 10*(1-(a=b))*(c=0) with b;makes 9*(0<c) with c;";
        fails("written(2, 0)", () -> of(still).written(2, 0));
        due("writing(2, 0)", of(still).writing(2, 0), 1);
        due("writing(2, 1)", of(still).writing(2, 1), 0);
        // By a's step 1 b is lured to 2, where all rest by a's step 2; with any step of a's written b and c chase one another.
        WhoseKiln lured = of("person a costs 0 0;person b costs 0 0;person c costs 0;makes 5*(a=1)*(b<2)+5*(a=2)*(b=2) with a;"
            + "makes 5*(a=1)*((b=2)*(c=0)+(b=0)*(c=1))+5*(1-(a=1))*(b=c)+5*(a=2)*(b=2)*(c=1) with b;"
            + "makes 5*(a=1)*((b=2)*c+(b=0)*(c=0))+5*(a=2)*(b=2)*c+5*(1-(a=1))*(b<2)*(1-(b=c)) with c;");
        due("rest(0)", lured.rest(0), 26);
        due("rest(1)", lured.rest(1), 3);
        for (int step = 0; step <= 2; step++) {
            int s = step;
            fails("written(0, " + step + ")", () -> lured.written(0, s));
        }
        fails("writing(0, 0), none though there is a rest by turns", () -> lured.writing(0, 0));
        fails("writing(0, 1), none though there is a rest by turns", () -> lured.writing(0, 1));
    }

    static void testPrice() {
        about("a PRICE (0 to 9999)");
        WhoseKiln x = of("person a costs 1;person b costs 1;thing t;makes 9999*2 with b t;");
        x.own(0, 1, 1);
        // b has a half, 9999, without it: at 9998 there is one more.
        due("right(0, 1, 0, 2)", x.right(0, 1, 0, 2), 1);
        due("right(0, 1, 9998, 2)", x.right(0, 1, 9998, 2), 1);
        due("right(0, 1, 9999, 2)", x.right(0, 1, 9999, 2), 0);
        works(x, "person a costs 1;person b costs 1;thing t;makes 9999*3 with b t;");
        x.own(0, 1, 1);
        due("right(0, 1, 9999, 2)", x.right(0, 1, 9999, 2), 1);
        for (int bad : new int[] {-1, 10000, 1 << 16, MIN, MAX}) {
            fails("right(0, 1, " + bad + ", 0)", () -> x.right(0, 1, bad, 0));
        }
        for (int bad : new int[] {-1, 1, 2, 32, MIN, MAX}) {
            fails("right(" + bad + ", 1, 0, 0)", () -> x.right(bad, 1, 0, 0));
            fails("right(0, buyer, 0, 0)", () -> x.right(0, bad == 1 ? 4 : bad, 0, 0));
            fails("right(0, 1, 0, what)", () -> x.right(0, 1, 0, bad == 1 || bad == 2 ? 2 + bad : bad));
        }
        fails("right of nobody", () -> of("thing t;").right(0, 0, 0, 0));
        fails("right without things", () -> of("person a costs 1;").right(0, 0, 0, 0));
        fails("right in a chase", () -> of(CHASE).right(0, 1, 0, 2));
    }

    static void testOnlyOwner() {
        about("the BUYER may have it as the only OWNER for that");
        WhoseKiln x = of("person a costs 1;person b costs 1;thing t;thing u;makes 10 with b t;makes 6 with b u;");
        x.own(0, 3, 2);
        x.own(1, 1, 1);
        // All 10 are b's alone then; the half of 6 is as it was. b pays 5 of what is more, and gets half of that back.
        right(x, 9, 0, 16, 1);
        right(x, 10, 0, 16, 0);
        x.own(0, 1, 1);
        right(x, 4, 0, 16, 1);
        right(x, 5, 0, 16, 0);
        due("right(1, 1, 2, 2) of the other thing", x.right(1, 1, 2, 2), 1);
        due("right(1, 1, 3, 2) of the other thing", x.right(1, 1, 3, 2), 0);
        // As the only owner one does not buy what one has.
        x.own(0, 2, 1);
        right(x, 0, 0, 16, 0);
        right(x, 7, 0, 16, 0);
    }

    static void testEvenParts() {
        about("paid in even parts to those who are its OWNERS");
        WhoseKiln x = of(SOLD);
        // a steps for more than the cost of 2 of a price that b pays: all of it, a half, a third.
        x.own(0, 1, 1);
        right(x, 2, 0, 0, 0);
        right(x, 3, 1, 18, 1);
        right(x, 9, 1, 18, 1);
        right(x, 10, 1, 18, 0);
        x.own(0, 5, 2);
        right(x, 4, 0, 0, 0);
        right(x, 5, 1, 18, 1);
        right(x, 13, 1, 18, 1);
        right(x, 14, 1, 18, 0);
        x.own(0, 5, 1);
        right(x, 4, 0, 0, 0);
        right(x, 5, 1, 18, 1);
        right(x, 6, 1, 18, 1);
        right(x, 7, 1, 18, 0);
        x.own(0, 13, 3);
        right(x, 6, 0, 0, 0);
        right(x, 7, 1, 18, 1);
        right(x, 14, 1, 18, 1);
        right(x, 15, 1, 18, 0);
        // The owners are those of this thing.
        WhoseKiln second = of("thing s;" + SOLD);
        second.own(0, 2, 1);
        second.own(1, 5, 2);
        due("right(1, 1, 4, 0)", second.right(1, 1, 4, 0), 0);
        due("right(1, 1, 5, 0)", second.right(1, 1, 5, 0), 1);
        due("right(1, 1, 13, 2)", second.right(1, 1, 13, 2), 1);
        due("right(1, 1, 14, 2)", second.right(1, 1, 14, 2), 0);
        // Who is no owner gets nothing.
        x.own(0, 12, 1);
        right(x, 1, 0, 0, 0);
        right(x, 19, 0, 0, 0);
    }

    static void testBuyerAmongOwners() {
        about("in even parts to those who are its OWNERS, the buyer among them");
        WhoseKiln x = of(SOLD);
        x.own(0, 15, 4);
        // A fourth of 8 is no more than 2; of 20 b pays 15, as much as there is more.
        right(x, 8, 0, 0, 0);
        right(x, 9, 1, 18, 1);
        right(x, 19, 1, 18, 1);
        right(x, 20, 1, 18, 0);
        x.own(0, 3, 2);
        right(x, 4, 0, 0, 0);
        right(x, 5, 1, 18, 1);
        right(x, 19, 1, 18, 1);
        right(x, 20, 1, 18, 0);
    }

    static void testNobodyIsPaid() {
        about("(to nobody if there are none)");
        WhoseKiln x = of(SOLD);
        // b has a fourth, 5, without it; a steps for a fourth, and for nothing if it is bought.
        right(x, 0, 0, 0, 0);
        right(x, 1, 0, 0, 0);
        right(x, 14, 0, 0, 0);
        right(x, 15, 1, 18, 0);
        right(x, 9999, 1, 18, 0);
    }

    static void testMoreForTheBuyer() {
        about("does so if that leaves more for the buyer");
        WhoseKiln x = of("person a costs 1;person b costs 1;thing t;makes 7 with b t;");
        x.own(0, 1, 1);
        // 7/2 without it.
        right(x, 3, 0, 7, 1);
        right(x, 4, 0, 7, 0);
        WhoseKiln none = of("person a costs 1;person b costs 1;thing t;makes 7 with a;");
        none.own(0, 1, 1);
        right(none, 0, 0, 7, 0);
        WhoseKiln bad = of("person a costs 1;person b costs 1;thing t;makes 0-7 with b t;");
        bad.own(0, 1, 1);
        right(bad, 0, 0, -7, 0);
        // By a's own pains it is worth it: behind them it is bought.
        WhoseKiln behind = of("person a costs 1;person b costs 4;thing t;makes 10*b with b t;");
        behind.own(0, 1, 1);
        // At 4, 10 less 4 and 4 are more than 5 less 4; at 5 as much.
        right(behind, 4, 4, 6, 1);
        right(behind, 5, 4, 6, 0);
        behind.bargain(2, 0);
        right(behind, 5, 4, 6, 1);
        right(behind, 6, 0, 0, 0);
    }

    static void testAllHaveWhatThatMakes() {
        about("All HAVE OF IT what that makes, and go by TURNS so");
        WhoseKiln x = of("person a costs 9;person b costs 9;person c costs 4;thing t;makes 10 with b t;makes c*6 with c t;");
        x.own(0, 4, 1);
        due("rest(0)", x.rest(0), 16);
        // c as the owner has all of 6 for 4, else a half; by c's step it is worth 3 more to b.
        right(x, 0, 0, 10, 1);
        right(x, 4, 0, 10, 1);
        right(x, 5, 0, 10, 0);
        right(x, 6, 0, 10, 0);
        right(x, 7, 16, 12, 1);
        right(x, 8, 16, 12, 0);
        right(x, 9999, 16, 12, 0);
    }

    static void testRightByChances() {
        about("SHARES are by chances of the two, beside what is bought, too");
        WhoseKiln x = of("person a costs 9;person b costs 9;person c costs 4;thing t;makes 10 with b t;makes c*6 with c t;");
        x.own(0, 4, 1);
        // Nothing is told of the later one: it is as that beside which it stands.
        x.chance(10);
        right(x, 4, 0, 10, 1);
        right(x, 7, 16, 12, 1);
        right(x, 8, 16, 12, 0);
        // Told as c's it is c's later, whoever buys it now.
        x.later(0, 4, 1);
        right(x, 0, 16, 12, 0);
        x.chance(5);
        // b gets a half of what is more: 5/2, and 3/2 by c's step.
        right(x, 2, 16, 12, 1);
        right(x, 3, 16, 12, 1);
        right(x, 4, 16, 12, 0);
    }

    static void testRightLeavesAll() {
        about("a RIGHT, a RIGHT PRICE, a LENDER and an EDGE leave what is told as it is");
        WhoseKiln x = of(KILN);
        x.own(0, 1, 1);
        for (int i = 0; i < 3; i++) {
            due("right(0, 1, 0, 2)", x.right(0, 1, 0, 2), 1);
            due("rest(0)", x.rest(0), 1);
            due("rightPrice(0, 1, 60, 0)", x.rightPrice(0, 1, 60, 0), 4);
            due("isRest(1)", x.isRest(1), 1);
            due("lender(0, 0, 8, 2)", x.lender(0, 0, 8, 2), 0);
            due("would(0, 0)", x.would(0, 0), 1);
            due("right(0, 1, 0, 2)", x.right(0, 1, 0, 2), 1);
            due("rests(0)", x.rests(0), 2);
            due("lender(0, 0, 8, 0)", x.lender(0, 0, 8, 0), 0);
            due("written(1, 1)", x.written(1, 1), 14);
            due("lender(0, 0, 8, 0)", x.lender(0, 0, 8, 0), 0);
            due("reached(0)", x.reached(0), 12);
            due("edge(0, 0, 0)", x.edge(0, 0, 0), 21);
            due("gap()", x.gap(), 0);
            due("good(6)", x.good(6), 14);
            due("makes(1, 1)", x.makes(1, 1), 5);
            due("edge(0, 0, 1)", x.edge(0, 0, 1), 9);
            due("worth(1, 1, 2)", x.worth(1, 1, 2), 10);
            due("owner(0, 0)", x.owner(0, 0), 1);
            share(x, 0, 1, 10, 1);
        }
    }

    static void testRightPrice() {
        about("RIGHT PRICE: of 0 to a PRICE (60 at most) that whose GOOD is the greatest, of equal ones the least");
        WhoseKiln x = of("person a costs 59;person b costs 999;thing t;makes a*200 with b t;");
        x.own(0, 1, 1);
        x.bargain(2, 1);
        // b asks and gets all but the price: only for 60 a steps.
        due("rightPrice(0, 1, 60, 0)", x.rightPrice(0, 1, 60, 0), 0);
        x.bargain(0, 0);
        due("right(0, 1, 59, 0)", x.right(0, 1, 59, 0), 0);
        due("right(0, 1, 60, 0)", x.right(0, 1, 60, 0), 1);
        due("rightPrice(0, 1, 60, 0)", x.rightPrice(0, 1, 60, 0), 60);
        due("rightPrice(0, 1, 60, 1)", x.rightPrice(0, 1, 60, 1), 141);
        due("rightPrice(0, 1, 59, 0)", x.rightPrice(0, 1, 59, 0), 0);
        due("rightPrice(0, 1, 59, 1)", x.rightPrice(0, 1, 59, 1), 0);
        WhoseKiln y = of(SOLD);
        y.own(0, 1, 1);
        due("rightPrice(0, 1, 60, 0), of many the least", y.rightPrice(0, 1, 60, 0), 3);
        due("rightPrice(0, 1, 3, 0)", y.rightPrice(0, 1, 3, 0), 3);
        due("rightPrice(0, 1, 2, 0)", y.rightPrice(0, 1, 2, 0), 0);
        due("rightPrice(0, 1, 0, 0)", y.rightPrice(0, 1, 0, 0), 0);
        due("rightPrice(0, 1, 0, 1)", y.rightPrice(0, 1, 0, 1), 0);
        WhoseKiln below = of("person a costs 1;person b costs 1;thing t;makes 0-7 with a;");
        due("rightPrice below 0", below.rightPrice(0, 0, 60, 0), 0);
        due("rightPrice below 0", below.rightPrice(0, 0, 60, 1), -7);
    }

    static void testRightPriceEdges() {
        about("rightPrice: NoSuchElementException: others, none at any");
        WhoseKiln x = of(SOLD);
        for (int bad : new int[] {-1, 61, 100, 9999, MIN, MAX}) {
            fails("rightPrice(0, 1, " + bad + ", 0)", () -> x.rightPrice(0, 1, bad, 0));
        }
        for (int bad : new int[] {-1, 4, 5, 32, MIN, MAX}) {
            fails("rightPrice(" + bad + ", 1, 0, 0)", () -> x.rightPrice(bad, 1, 0, 0));
            fails("rightPrice(0, " + bad + ", 0, 0)", () -> x.rightPrice(0, bad, 0, 0));
            fails("rightPrice(0, 1, 0, " + bad + ")", () -> x.rightPrice(0, 1, 0, bad));
        }
        fails("rightPrice(1, 1, 0, 0)", () -> x.rightPrice(1, 1, 0, 0));
        fails("rightPrice(0, 1, 0, 2)", () -> x.rightPrice(0, 1, 0, 2));
        fails("rightPrice of nobody", () -> of("thing t;").rightPrice(0, 0, 0, 0));
        fails("rightPrice in a chase", () -> of(CHASE).rightPrice(0, 0, 60, 1));
        // The chase ends where b as the owner stands still: b buys for less than what is more.
        WhoseKiln some = of(CHASE + "makes 15*(1-b) with b k;");
        some.own(0, 1, 1);
        due("right(0, 1, 0, 0)", some.right(0, 1, 0, 0), 0);
        due("right(0, 1, 0, 2)", some.right(0, 1, 0, 2), 1);
        fails("right(0, 1, 60, 0)", () -> some.right(0, 1, 60, 0));
        due("rightPrice(0, 1, 60, 0), none at some", some.rightPrice(0, 1, 60, 0), 0);
        due("rightPrice(0, 1, 60, 1), none at some", some.rightPrice(0, 1, 60, 1), 25);
        // a as the owner stands still. Below 10 b buys at once, and a goes on in the chase; below 12 a steps to keep it.
        WhoseKiln late = of(CHASE + "makes 15*(1-a) with a k;makes 20 with b k;");
        late.own(0, 1, 1);
        due("rest(0)", late.rest(0), 4);
        for (int price = 0; price <= 11; price++) {
            int p = price;
            fails("right(0, 1, " + p + ", 0)", () -> late.right(0, 1, p, 0));
        }
        right(late, 12, 4, 44, 1);
        right(late, 17, 4, 44, 1);
        right(late, 18, 4, 44, 0);
        due("rightPrice(0, 1, 60, 0), none at the first ones", late.rightPrice(0, 1, 60, 0), 12);
        fails("rightPrice(0, 1, 11, 0), none at any of these", () -> late.rightPrice(0, 1, 11, 0));
    }

    static void testChance() {
        about("The CHANCE of ten: true; false: others (0 to 10; 0 at first)");
        WhoseKiln x = of("person a costs 1;person b costs 1;thing t;makes 10 with t;");
        x.own(0, 1, 1);
        x.later(0, 2, 1);
        share(x, 0, 0, 10, 1);
        share(x, 1, 0, 0, 1);
        for (int ten = 10; ten >= 0; ten--) {
            due("chance(" + ten + ")", x.chance(ten), true);
            for (int bad : new int[] {-1, 11, 12, MIN, MAX}) {
                due("chance(" + bad + ")", x.chance(bad), false);
            }
            share(x, 0, 0, 10 - ten, 1);
            share(x, 1, 0, ten, 1);
        }
        WhoseKiln nobody = new WhoseKiln();
        due("chance(10) of nobody", nobody.chance(10), true);
        due("chance(11) of nobody", nobody.chance(11), false);
        about("SHARES are by chances of the two, by each bargain");
        for (int kind = 0; kind <= 2; kind++) {
            x.bargain(kind, 1);
            x.chance(3);
            share(x, 0, 0, 7, 1);
            share(x, 1, 0, 3, 1);
        }
        x.later(0, 0, 1);
        x.bargain(0, 0);
        share(x, 0, 0, 17, 2);
        share(x, 1, 0, 3, 2);
        x.bargain(2, 1);
        share(x, 0, 0, 7, 1);
        share(x, 1, 0, 3, 1);
    }

    static void testLater() {
        about("THING by THING: of which later() told nothing it is as in the OWNING beside which it stands");
        WhoseKiln x = of("person a costs 1;person b costs 1;thing t;thing u;thing v;makes 1 with t;makes 10 with u;makes 100 with v;");
        for (int thing = 0; thing < 3; thing++) {
            x.own(thing, 1, 1);
        }
        x.chance(10);
        share(x, 0, 0, 111, 1);
        due("later(1, 2, 1)", x.later(1, 2, 1), true);
        share(x, 0, 0, 101, 1);
        share(x, 1, 0, 10, 1);
        x.own(2, 2, 1);
        share(x, 0, 0, 1, 1);
        share(x, 1, 0, 110, 1);
        // Of what is told the owning as it is counts for nothing.
        x.own(1, 1, 1);
        share(x, 1, 0, 110, 1);
        // Told as nobody's it is nobody's.
        due("later(2, 0, 1)", x.later(2, 0, 1), true);
        share(x, 0, 0, 51, 1);
        share(x, 1, 0, 60, 1);
        // What is refused is not told.
        due("later(0, 2, 2)", x.later(0, 2, 2), false);
        share(x, 0, 0, 51, 1);
        due("later(0, 3, 2)", x.later(0, 3, 2), true);
        share(x, 0, 0, 101, 2);
        due("owner(0, 0)", x.owner(0, 0), 1);
        due("owner(0, 1)", x.owner(0, 1), 1);
        due("has(1)", x.has(1), 3);
        due("makes(1, 0)", x.makes(1, 0), 11);
        due("leaving(1, 0)", x.leaving(1, 0), 100);
        due("hands()", x.hands(), 0);
    }

    static void testLaterBesidePlain() {
        about("whichever is asked about");
        // c asks; a takes pains by t alone, b by u alone.
        WhoseKiln x = of("person a costs 1;person b costs 1;person c costs 1;thing t;thing u;makes 2*a with a t;makes 3*b with b u;");
        x.bargain(2, 2);
        x.chance(10);
        due("reached(5)", x.reached(5), 3);
        due("gap()", x.gap(), 3);
        due("joint(1)", x.joint(1), 9);
        due("oneHand(0, 1)", x.oneHand(0, 1), -1);
        due("edge(0, 0, 1)", x.edge(0, 0, 1), NONE);
        x.later(0, 2, 1);
        for (int number = 0; number < 25; number++) {
            due("reached(" + number + ")", x.reached(number), number / 5 == 1 ? 2 : 0);
        }
        due("first(0)", x.first(0), 5);
        due("first(1)", x.first(1), 5);
        due("gap()", x.gap(), 2);
        due("joint(1)", x.joint(1), 5);
        due("oneHand(0, 1)", x.oneHand(0, 1), 0);
        x.own(0, 1, 1);
        due("rest(0)", x.rest(0), 0);
        due("right(0, 0, 0, 0)", x.right(0, 0, 0, 0), 0);
        x.later(0, 1, 1);
        due("rest(0)", x.rest(0), 1);
        for (int number = 0; number < 25; number++) {
            due("reached(" + number + ")", x.reached(number), number / 5 == 1 ? 3 : 1);
        }
        // At five of ten a's two bring no more than they cost, at four they do.
        x.later(0, 2, 1);
        x.chance(5);
        due("reached(5)", x.reached(5), 2);
        x.chance(4);
        due("reached(5)", x.reached(5), 3);
        due("reached(6)", x.reached(6), 2);
        x.chance(0);
        due("reached(5)", x.reached(5), 3);
        x.bargain(2, 1);
        // b asks: b takes pains whoever owns.
        due("reached(0)", x.reached(0), 3);
        due("reached(1)", x.reached(1), 2);
    }

    static void testLenderSum() {
        about("A LENDER has a sum (0 to 9999)");
        WhoseKiln x = of("person a costs 1;person b costs 1;thing t;makes 9999 with a;");
        lender(x, 0, 9998, 0, 9999, 1);
        lender(x, 0, 9999, 0, 9999, 1);
        for (int bad : new int[] {-1, 10000, 1 << 16, MIN, MAX}) {
            fails("lender(0, 0, " + bad + ", 0)", () -> x.lender(0, 0, bad, 0));
        }
        for (int bad : new int[] {-1, 2, 3, 32, MIN, MAX}) {
            fails("lender(" + bad + ", 0, 0, 0)", () -> x.lender(bad, 0, 0, 0));
            fails("lender(0, thing, 0, 0)", () -> x.lender(0, bad == 2 ? 1 : bad, 0, 0));
            fails("lender(0, 0, 0, what)", () -> x.lender(0, 0, 0, bad == 2 ? 4 : bad));
        }
        fails("lender of nobody", () -> of("thing t;").lender(0, 0, 0, 0));
        fails("lender without things", () -> of("person a costs 1;").lender(0, 0, 0, 0));
        for (int what = 0; what <= 2; what++) {
            int w = what;
            fails("lender in a chase", () -> of(CHASE).lender(0, 0, 0, w));
        }
    }

    static void testLenderShare() {
        about("if one's SHARE is not below the sum it is paid");
        WhoseKiln x = of("person a costs 1;person b costs 1;thing t;makes 15 with a b;makes 0-5 with a;makes 0-5 with b;");
        // 5/2 each.
        lender(x, 0, 2, 0, 5, 1);
        lender(x, 0, 3, 0, 5, 0);
        WhoseKiln even = of("person a costs 1;person b costs 1;thing t;makes 10 with a b;");
        lender(even, 1, 5, 0, 10, 1);
        lender(even, 1, 6, 0, 10, 0);
        WhoseKiln zero = of("person a costs 1;thing t;");
        lender(zero, 0, 0, 0, 0, 1);
        lender(zero, 0, 1, 0, 0, 0);
        WhoseKiln below = of("person a costs 1;thing t;makes 0-1 with a;");
        lender(below, 0, 0, 0, -1, 0);
        WhoseKiln half = of("person a costs 1;person b costs 1;thing t;makes 0-1 with a b;");
        lender(half, 0, 0, 0, -1, 0);
        // The share, not what is left of it: 10 for 3 are paid at a sum of 10, as standing still costs 50.
        WhoseKiln cost = of("person a costs 3;person b costs 99;thing t;makes 10 with a t;makes 0-50*(a=0) with a;");
        cost.own(0, 1, 1);
        lender(cost, 0, 10, 1, 7, 1);
        lender(cost, 0, 11, 1, 7, 0);
        // What is paid is less for the one who pays: by a step one would only pay.
        WhoseKiln pays = of("person a costs 9;person b costs 7;thing t;makes 12*b with b t;");
        pays.own(0, 2, 1);
        lender(pays, 1, 0, 4, 5, 1);
        lender(pays, 1, 4, 4, 5, 1);
        lender(pays, 1, 5, 0, 0, 0);
        lender(pays, 1, 12, 0, 0, 0);
        lender(pays, 1, 13, 0, 0, 0);
    }

    static void testLenderPledge() {
        about("else it is not, and the THING has no OWNERS (SHARES are by that)");
        WhoseKiln x = of("person a costs 9;person b costs 7;thing t;thing u;makes 12*b with b t;makes 3 with a u;");
        x.own(0, 2, 1);
        x.own(1, 1, 1);
        // a's debt, b's pledge: of a half of 12 b takes no pains.
        lender(x, 0, 3, 4, 8, 1);
        lender(x, 0, 4, 0, 3, 0);
        due("rest(0)", x.rest(0), 4);
        due("owner(0, 0)", x.owner(0, 0), 2);
        // The other thing as a pledge: b's is b's still.
        due("lender(0, 1, 4, 0)", x.lender(0, 1, 4, 0), 4);
        due("lender(0, 1, 4, 2)", x.lender(0, 1, 4, 2), 0);
        // The pledge is neither the debtor's nor another one's then.
        WhoseKiln y = of("person a costs 5;person b costs 5;person c costs 1;thing t;makes 12*a with a t;makes 12*b with b t;");
        y.own(0, 1, 1);
        lender(y, 2, 0, 5, 14, 1);
        lender(y, 2, 1, 0, 0, 0);
        y.own(0, 7, 1);
        lender(y, 2, 0, 5, 14, 1);
        lender(y, 2, 1, 0, 0, 0);
        y.own(0, 7, 3);
        lender(y, 2, 0, 0, 0, 1);
    }

    static void testLenderByChances() {
        about("a LENDER's SHARES, by chances of the two");
        WhoseKiln x = of("person a costs 1;person b costs 1;thing t;makes 10 with a t;");
        x.own(0, 1, 1);
        x.later(0, 2, 1);
        x.chance(5);
        lender(x, 0, 7, 0, 10, 1);
        lender(x, 0, 8, 0, 10, 0);
        WhoseKiln y = of("person a costs 9;person b costs 7;thing t;makes 12*b with b t;");
        y.own(0, 2, 1);
        y.chance(10);
        // Nothing told of what is later: nobody's then, too.
        lender(y, 0, 1, 0, 0, 0);
        y.later(0, 2, 1);
        lender(y, 0, 1, 4, 5, 0);
        y.chance(0);
        lender(y, 0, 1, 0, 0, 0);
    }

    static void testHands() {
        about("HANDS: one who is OWNER of nothing");
        WhoseKiln x = of(FOUR + "thing t;thing u;thing v;");
        due("hands()", x.hands(), 15);
        for (int owners = 0; owners < 16; owners++) {
            for (int thing = 0; thing < 3; thing++) {
                x.own(thing, owners, 1);
                due("hands()", x.hands(), 15 - owners);
                x.own((thing + 1) % 3, 9, 2);
                due("hands()", x.hands(), 15 & ~(owners | 9));
                x.own(thing, 0, 1);
                due("hands()", x.hands(), 6);
                x.own((thing + 1) % 3, 0, 1);
            }
        }
        x.later(0, 15, 1);
        x.chance(10);
        due("hands(), owners later are none", x.hands(), 15);
        for (int n = 1; n <= 4; n++) {
            due("hands() without things", of(FOUR.substring(0, 17 * n)).hands(), (1 << n) - 1);
        }
        due("hands() of nobody", of("thing t;").hands(), NONE);
        // What works ahead had as a third thing is nothing to them.
        x.own(2, 15, 1);
        works(x, FOUR + "thing t;");
        due("hands() of new works", x.hands(), 15);
    }

    static void testLeaving() {
        about("By PAINS: what all MAKE less what all others MAKE without one");
        WhoseKiln x = of("person a costs 1;person b costs 1;person c costs 1;thing t;makes 100 with t;makes 10*c with a c;makes 0-7 with b;");
        // Without owners those left have it no more.
        due("leaving(0, 16)", x.leaving(0, 16), 110);
        due("leaving(1, 16)", x.leaving(1, 16), 93);
        due("leaving(2, 16)", x.leaving(2, 16), 110);
        due("leaving(2, 0)", x.leaving(2, 0), 100);
        x.own(0, 7, 2);
        due("leaving(0, 16), two are left", x.leaving(0, 16), 10);
        due("leaving(1, 16), below 0", x.leaving(1, 16), -7);
        x.own(0, 7, 3);
        due("leaving(1, 16), three are none", x.leaving(1, 16), 93);
        x.own(0, 2, 1);
        due("leaving(0, 0)", x.leaving(0, 0), 0);
        due("leaving(1, 0)", x.leaving(1, 0), 93);
        WhoseKiln one = of("person a costs 1;thing t;makes 5 with t;makes 9*a with a;");
        due("leaving(0, 1) of one alone", one.leaving(0, 1), 14);
        for (int bad : new int[] {-1, 3, 4, 32, MIN, MAX}) {
            fails("leaving(" + bad + ", 0)", () -> x.leaving(bad, 0));
        }
        for (int bad : new int[] {-1, 2, 64, 256, MIN, MAX}) {
            fails("leaving(0, " + bad + ")", () -> x.leaving(0, bad));
        }
        fails("leaving of nobody", () -> of("thing t;").leaving(0, 0));
        WhoseKiln cut = of("person a costs 1;person b costs 1;makes 9999*99 with a;makes 0-9999*99 with b;makes 9 with a b;");
        due("leaving(0, 0), of what is cut", cut.leaving(0, 0), 9 + 99999);
        due("leaving(1, 0), of what is cut", cut.leaving(1, 0), 9 - 99999);
    }

    static void testEdgeRange() {
        about("the least m above 10, the greatest below 10 (m 0 to 40)");
        String last = "person b costs 9;thing t;makes a*10 with a t;makes b*10 with b t;";
        due("edge(0, 0, 0) at 40", of("person a costs 39;" + last).edge(0, 0, 0), 40);
        due("edge(0, 0, 0) beyond 40", of("person a costs 40;" + last).edge(0, 0, 0), NONE);
        due("edge(0, 0, 0) at 11", of("person a costs 9;person b costs 8;thing t;makes a*10 with a t;makes b*10 with b t;").edge(0, 0, 0), 11);
        WhoseKiln near = of("person a costs 8;person b costs 8;thing t;makes a*10 with a t;makes b*10 with b t;");
        due("edge(1, 0, 0) at 11", near.edge(1, 0, 0), 11);
        due("edge(0, 0, 1) at 9", near.edge(0, 0, 1), 9);
        due("edge(1, 0, 1), of equal ones the first", near.edge(1, 0, 1), NONE);
        // By more than 8 for a half a steps for b's thing, too.
        due("edge(0, 0, 0)", near.edge(0, 0, 0), 17);
        // c asks: a is won by nothing but what a makes alone.
        WhoseKiln zero = of("person a costs 0;person b costs 5;person c costs 1;thing t;makes 10*a with a t;makes 6*b with b t;");
        zero.bargain(2, 2);
        due("edge(0, 0, 1) at 0", zero.edge(0, 0, 1), 0);
        WhoseKiln ten = of("person a costs 1;person b costs 5;person c costs 1;thing t;makes 10*a with a t;makes 6*b with b t;");
        ten.bargain(2, 2);
        // a steps for more than 1: at 1 a's 1 is none; at 2 a's 1 is as much as b's.
        due("edge(0, 0, 1)", ten.edge(0, 0, 1), 1);
        about("edge, what 0: above 10, 1: below; NONE: others, none");
        for (int bad : new int[] {-1, 2, 3, 8, MIN, MAX}) {
            due("edge(" + bad + ", 0, 0)", near.edge(bad, 0, 0), NONE);
            due("edge(1, " + bad + ", 0)", near.edge(1, bad, 0), NONE);
            due("edge(1, 0, " + bad + ")", near.edge(1, 0, bad), NONE);
        }
        due("edge(1, 1, 0)", near.edge(1, 1, 0), NONE);
        due("edge of nobody", of("thing t;makes 1 with t;").edge(0, 0, 0), NONE);
        due("edge of one alone", of("person a costs 1;thing t;makes 5*a with a t;").edge(0, 0, 0), NONE);
        due("edge without things", of("person a costs 1;makes 5*a with a;").edge(0, 0, 0), NONE);
    }

    static void testEdgeCut() {
        about("that line's E is times m by 10 (cut towards 0)");
        // a's 15 by m is to be 21 or more: 19 of 19.5 is not, and 20 would be equal to b's 5.
        WhoseKiln x = of("person a costs 15;person b costs 5;thing t;makes 15*a with a t;makes 10*b with b t;");
        due("edge(0, 0, 0)", x.edge(0, 0, 0), 14);
        // -16*11/10 is cut to -17: half of it is not yet 9.
        due("edge(2, 0, 0) below 0", of(CHASE + "makes 0-16*b with b k;").edge(2, 0, 0), 12);
        // Of -15*12/10 nothing is cut, half of it is 9.
        due("edge(2, 0, 0) below 0", of(CHASE + "makes 0-15*b with b k;").edge(2, 0, 0), 12);
        // One of both lines is another: 5 and 4, 5 and 4, 5 and 3 are 2, 2, 1 more than 7, and b's are 2.
        WhoseKiln two = of("person a costs 7;person b costs 8;thing t;makes 5*a with a t;makes 5*a with a t;makes 10*b with b t;");
        due("edge(0, 0, 1)", two.edge(0, 0, 1), 7);
        due("edge(1, 0, 1)", two.edge(1, 0, 1), 7);
        // E itself wraps, what it is times does not: 2^31 - 8 by 40 is more than all.
        WhoseKiln large = of("person a costs 15;person b costs 15;thing t;makes (4096*4096*128-8)*a with a t;makes 30*b with b t;");
        due("edge(0, 0, 0)", large.edge(0, 0, 0), NONE);
        due("edge(0, 0, 1)", large.edge(0, 0, 1), 0);
    }

    static void testEdgeOwners() {
        about("the FIRST owner is that one of the PEOPLE with whom as the only OWNER most is REACHED, of equal ones the first");
        String line = "makes 9*a with a t;makes 9*b with b t;makes 9*c with c t;";
        WhoseKiln x = of("person a costs 8;person b costs 8;person c costs 8;thing t;" + line);
        due("edge(2, 0, 0), the last one", x.edge(2, 0, 0), 12);
        due("edge(1, 0, 0), the second", x.edge(1, 0, 0), 12);
        due("edge(0, 0, 1), b and c are equal", x.edge(0, 0, 1), 9);
        // At 10 it is a, whoever has it and by what need.
        for (int owners = 0; owners < 8; owners++) {
            x.own(0, owners, Math.max(1, Integer.bitCount(owners)));
            due("edge(2, 0, 0) as it is " + owners, x.edge(2, 0, 0), 12);
            due("edge(2, 0, 1) as it is " + owners, x.edge(2, 0, 1), NONE);
        }
        // From a by 10 to another one by 20, and by 30 to a third: the nearest counts.
        WhoseKiln y = of("person a costs 90;person b costs 90;person c costs 1;thing t;makes 100*a with a t;makes 50*b with b t;makes 200*b with b t;");
        y.bargain(2, 2);
        due("edge(1, 0, 1)", y.edge(1, 0, 1), NONE);
        due("edge(0, 0, 0)", y.edge(0, 0, 0), 25);
        due("edge(2, 0, 1)", y.edge(2, 0, 1), 2);
    }

    static void testEdgeElse() {
        about("(all else as it is)");
        WhoseKiln x = of("person a costs 4;person b costs 4;thing t;thing u;makes 5*a with a t u;makes 6*b with b t u;");
        x.own(1, 2, 1);
        due("edge(1, 0, 1) where u is b's", x.edge(1, 0, 1), 8);
        x.own(1, 1, 1);
        due("edge(1, 0, 1) where u is a's", x.edge(1, 0, 1), NONE);
        due("edge(1, 1, 1)", x.edge(1, 1, 1), NONE);
        x.own(1, 0, 1);
        due("edge(1, 0, 1) where u is nobody's", x.edge(1, 0, 1), NONE);
        x.own(1, 3, 1);
        due("edge(1, 0, 1) where u is of either", x.edge(1, 0, 1), 9);
        x.own(1, 2, 1);
        // Whoever has t now, a has it later: all owners are alike.
        x.later(0, 1, 1);
        due("edge(1, 0, 1) without a chance", x.edge(1, 0, 1), 8);
        x.chance(10);
        due("edge(1, 0, 1) by later", x.edge(1, 0, 1), NONE);
        x.later(0, 2, 1);
        due("edge(1, 0, 1) by later", x.edge(1, 0, 1), NONE);
        x.chance(0);
        x.bargain(2, 1);
        // b asks and takes pains whoever owns; a has pains of its own only by both.
        due("edge(1, 0, 1) where b asks", x.edge(1, 0, 1), NONE);
        x.bargain(0, 0);
        due("edge(1, 0, 1)", x.edge(1, 0, 1), 8);
    }

    static void testEdgePassesOver() {
        about("(where nobody REACHES anything m is passed over; none if so at 10)");
        WhoseKiln x = of(CHASE + "makes 15*(1-b) with b k;");
        // As b's own it ends the chase at 10; from 12 on as a's, too.
        due("edge(2, 0, 0)", x.edge(2, 0, 0), 12);
        due("edge(2, 0, 1)", x.edge(2, 0, 1), NONE);
        due("edge(1, 0, 1)", x.edge(1, 0, 1), 8);
        due("edge(1, 0, 0)", x.edge(1, 0, 0), NONE);
        // From 17 to 19 nobody reaches anything; from 20 on a second step ends it, whoever owns.
        WhoseKiln y = of("person a costs 1;person b costs 1 40;thing k;makes 10*(a=b) with a;"
            + "makes 10*(1-(a=b))*(b<2)+30*(b=2) with b;makes 15*(b=0) with b k;");
        due("edge(1, 0, 0)", y.edge(1, 0, 0), 20);
        due("edge of a chase", of(CHASE).edge(0, 0, 0), NONE);
        due("edge of a chase", of(CHASE).edge(0, 0, 1), NONE);
        // None at 10, though at 12 there would be one.
        due("edge, none at 10", of(CHASE + "makes 9*(1-b) with b;").edge(2, 0, 0), NONE);
    }

    static void testMarks() {
        about("MARKS 0 to 3; a MARK is laid (back: gone back to): true; false: none such, nothing is on it (back)");
        WhoseKiln x = new WhoseKiln();
        for (int bad : new int[] {-1, 4, 5, 32, MIN, MAX}) {
            due("mark(" + bad + ", false)", x.mark(bad, false), false);
            due("mark(" + bad + ", true)", x.mark(bad, true), false);
        }
        for (int mark = 0; mark <= 3; mark++) {
            due("mark(" + mark + ", true) on nothing", x.mark(mark, true), false);
        }
        for (int mark = 0; mark <= 3; mark++) {
            due("works", works(x, "person a costs " + mark + ";"), 0);
            due("mark(" + mark + ", false)", x.mark(mark, false), true);
            for (int other = mark + 1; other <= 3; other++) {
                due("mark(" + other + ", true) on nothing", x.mark(other, true), false);
                due("cost(0, 1), all is as it was", x.cost(0, 1), mark);
            }
        }
        for (int mark : new int[] {2, 0, 3, 3, 1, 0}) {
            due("mark(" + mark + ", true)", x.mark(mark, true), true);
            due("cost(0, 1)", x.cost(0, 1), mark);
        }
        // Laid again it holds what is told then, and what is told behind it leaves it as it is.
        works(x, "person a costs 7;");
        due("mark(0, false) again", x.mark(0, false), true);
        works(x, "person a costs 8;");
        due("mark(0, true)", x.mark(0, true), true);
        due("cost(0, 1)", x.cost(0, 1), 7);
        works(x, "");
        due("mark(0, true)", x.mark(0, true), true);
        due("cost(0, 1)", x.cost(0, 1), 7);
        due("mark(3, true)", x.mark(3, true), true);
        due("cost(0, 1)", x.cost(0, 1), 3);
        WhoseKiln empty = new WhoseKiln();
        due("mark of nobody", empty.mark(1, false), true);
        works(empty, KILN);
        due("back to nobody", empty.mark(1, true), true);
        due("count(0)", empty.count(0), 0);
        due("count(1)", empty.count(1), 0);
        due("count(2)", empty.count(2), 0);
    }

    static void testMarkHoldsAll() {
        about("MARKS hold all that is told: WORKS, both OWNINGS, BARGAIN, ASKER, CHANCE");
        String text = "person a costs 1;person b costs 2 3;person c costs 4 5 6;person d costs 7 8 9;thing t;thing u;thing v;"
            + "makes 1 with a;makes 2 with a t;makes 4 with c t;makes 8 with u;makes 16 with v;makes 32 with d;makes 64*d with d v;makes 128*a with a;";
        List<Consumer<WhoseKiln>> tells = List.of(x -> x.own(0, 1, 1), x -> x.own(1, 1, 1), x -> x.own(2, 14, 2), x -> x.later(0, 8, 1),
            x -> x.later(1, 0, 1), x -> x.later(2, 15, 2), x -> x.bargain(2, 0), x -> x.bargain(0, 3), x -> x.chance(5), x -> works(x, text),
            x -> works(x, KILN), x -> works(x, text.replace("7 8 9", "7 8 8")), x -> works(x, text.replace("128", "64")), x -> works(x, ""));
        for (Consumer<WhoseKiln> tell : tells) {
            WhoseKiln x = marked(text);
            long[] all = told(x);
            due("mark(1, false)", x.mark(1, false), true);
            tell.accept(x);
            due("something else", Arrays.equals(all, told(x)), false);
            due("mark(1, true)", x.mark(1, true), true);
            due("all as it was", Arrays.equals(all, told(x)), true);
        }
        WhoseKiln x = marked(text);
        long[] all = told(x);
        feed(x, "thing");
        due("mark(1, false)", x.mark(1, false), true);
        due("count(5), the TAPE is no part of it", x.count(5), 5);
        due("works of the rest", works(x, " z;"), 0);
        feed(x, "to");
        due("mark(1, true)", x.mark(1, true), true);
        due("count(5), the TAPE is as it is", x.count(5), 2);
        due("all as it was", Arrays.equals(all, told(x)), true);
    }

    static WhoseKiln marked(String text) {
        WhoseKiln x = of(text);
        for (int thing = 0; thing < 3; thing++) {
            x.own(thing, 7 << (thing & 1), 3 - thing);
            x.later(thing, 1 << thing, 1);
        }
        x.bargain(2, 3);
        x.chance(4);
        return x;
    }

    /** All that was told, by the calls that tell it again. */
    static long[] told(WhoseKiln x) {
        List<Long> found = new ArrayList<>();
        for (int p = 0; p < 4; p++) {
            for (int step = 0; step < 4; step++) {
                found.add((long) x.cost(p, step));
            }
            for (int pains : new int[] {0, 1, 64}) {
                try {
                    found.add(x.share(p, pains, 0) * 1000 + x.share(p, pains, 1));
                } catch (NoSuchElementException e) {
                    found.add(-7L);
                }
            }
        }
        for (int what = 0; what < 5; what++) {
            found.add((long) x.count(what));
        }
        for (int set = 0; set < 16; set++) {
            found.add((long) x.has(set));
        }
        for (int thing = 0; thing < 3; thing++) {
            found.add((long) x.owner(thing, 0));
            found.add((long) x.owner(thing, 1));
        }
        return found.stream().mapToLong(v -> v).toArray();
    }

    static void testCount() {
        about("What 0: PEOPLE, 1: THINGS, 2: lines with makes, 3: PLAIN OWNINGS, 4: rows of PAINS, 5: signs on the TAPE");
        WhoseKiln x = of("person a costs 1 2;person b costs 1 2 3;thing t;thing u;thing v;makes 1 with a;makes 1 with t;");
        feed(x, "thing  \n");
        int[] want = {2, 3, 2, 64, 12, 8};
        for (int what = 0; what <= 5; what++) {
            due("count(" + what + ")", x.count(what), want[what]);
        }
        for (int bad : new int[] {-1, 6, 7, MIN, MAX}) {
            due("count(" + bad + ")", x.count(bad), NONE);
        }
        due("count(4) at most", of("person a costs 1 2 3;person b costs 1 2 3;person c costs 1 2 3;person d costs 1 2 3;").count(4), 256);
        due("count(4) at least", of("person a costs 1;").count(4), 2);
        due("count(3) at most", of(FOUR + "thing t;thing u;thing v;").count(3), 216);
        due("count(3) without things", of(FOUR).count(3), 1);
        about("3: PLAIN OWNINGS (0 without PEOPLE), 4: rows of PAINS (0 without)");
        for (String text : new String[] {"", "thing t;", "thing t;thing u;thing v;makes 1 with t u v;"}) {
            due("count(3) of nobody", of(text).count(3), 0);
            due("count(4) of nobody", of(text).count(4), 0);
        }
    }
}
