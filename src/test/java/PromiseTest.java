/** Each promise by ordinary inputs, by the edges that the document names and by wrong inputs. */
public final class PromiseTest extends Due {
    static final String TRIO = "person a costs 1;person b costs 1;person c costs 1;thing t;"
        + "makes 12 with a b;makes 6 with a c;makes 9 with a b c t;";

    public static void main(String[] args) {
        testNew();
        testFeed();
        testTokens();
        testSentences();
        testLines();
        testWorksState();
        testCost();
        testWorth();
        testExpressions();
        testOwn();
        testLater();
        testHas();
        testMakes();
        testBargain();
        testShare();
        testWould();
        testIsRest();
        testRest();
        testRounds();
        testRests();
        testGoodBestLost();
        testReached();
        testFirstGapJoint();
        testApart();
        testOneHand();
        testWritten();
        testRight();
        testRightPrice();
        testLender();
        testHands();
        testLeaving();
        testEdge();
        testMark();
        testCount();
        testWrongEverywhere();
        end("all promises hold");
    }

    static void testNew() {
        about(1);
        WhoseKiln x = new WhoseKiln();
        for (int what = 0; what <= 5; what++) {
            due("count(" + what + ")", x.count(what), 0);
        }
        due("hands()", x.hands(), NONE);
        due("cost(0, 0)", x.cost(0, 0), NONE);
        due("owner(0, 0)", x.owner(0, 0), NONE);
        due("has(0)", x.has(0), 0);
        due("worth(0, 0, 0)", x.worth(0, 0, 0), 0);
        due("makes(0, 0)", x.makes(0, 0), 0);
        fails("best(0)", () -> x.best(0));
        fails("share(0, 0, 0)", () -> x.share(0, 0, 0));
        due("NONE", NONE, -1);
    }

    static void testFeed() {
        about(2);
        WhoseKiln x = new WhoseKiln();
        due("feed of zeros", x.feed(0, 0, 0), 0);
        due("feed of a, b, c", x.feed('a', 'b', 'c'), 3);
        due("feed of others", x.feed(0x090B1F7F80FF0D00L, -1L, Long.MIN_VALUE), 3);
        due("feed of the edges", x.feed(0x0A207E0000000000L, 0, 0x200000000000007EL), 8);
        x.works();
        // Each long's highest byte is the first sign: the text is then "thing x;".
        due("feed of thing x;", x.feed(0x7468696E67207800L, 0, 0x3B00000000000000L), 8);
        due("works()", x.works(), 0);
        due("count(1)", x.count(1), 1);
        long full = 0x2020202020202020L;
        for (int i = 1; i <= 41; i++) {
            due("feed " + i, x.feed(full, full, full), 24 * i);
        }
        due("feed beyond", x.feed(full, full, full), 1000);
        due("feed beyond again", x.feed(full, full, full), 1000);
        due("count(5)", x.count(5), 1000);
        due("works() of a full tape", x.works(), 0);
        for (int i = 1; i <= 41; i++) {
            x.feed(full, full, full);
        }
        // 984 blanks; of 24 signs more 16 are kept: "thing yy" and eight blanks, the ; is beyond.
        x.feed(0x7468696E67207979L, full, 0x3B3B3B3B3B3B3B3BL);
        due("works() cut at 1000", x.works(), 1 + 16 * 1000);
    }

    static void testTokens() {
        about(3);
        due("works of nothing", works(new WhoseKiln(), ""), 0);
        due("works of blanks", works(new WhoseKiln(), "  \n "), 0);
        fault("person", 1, 6);
        fault("Person a costs 1;", 1, 0);
        fault("thing a", 1, 7);
        fault("thing a \n ", 1, 10);
        fault("thing a;;", 1, 8);
        fault("thing a!", 1, 7);
        fault("thing abcdefgh;", 0, 0);
        fault("thing abcdefghi;", 1, 6);
        fault("thingabcd x;", 1, 0);
        fault("thing azya;thing z;", 0, 0);
        fault("thing a{;", 1, 7);
        fault("thing `a;", 1, 6);
        fault("thing a/;", 1, 7);
        fault("thing a:;", 1, 7);
        // What an earlier tape held behind the end of a shorter one is gone.
        WhoseKiln x = new WhoseKiln();
        due("a long word", works(x, "thing abcdefghij;"), 1 + 16 * 6);
        due("a shorter word", works(x, "thing abc"), 1 + 16 * 9);
        due("a long number", works(x, "thing a;makes 12345 with a;"), 1 + 16 * 14);
        due("a shorter number", works(x, "thing a;makes 1"), 1 + 16 * 15);
        for (String end : new String[] {"thing abc", "thing a;makes 12"}) {
            String text = end;
            while (text.length() < 1000) {
                text = " " + text;
            }
            fault(text, 1, 1000);
        }
        fault("person a costs 12345;", 1, 15);
        fault("person a costs 0999;", 0, 0);
        fault("person a costs 00999;", 1, 15);
        fault("\nperson\na\ncosts\n1\n;thing\nb;", 0, 0);
        fault("thing a;makes 12with a;", 0, 0);
        fault("person a costs1 2;", 0, 0);
        fault("thing a;makes 9999*1 with a;", 0, 0);
        fault("thing a;makes 10000*1 with a;", 1, 14);
        fault("thing a;makes 1>2 with a;", 1, 15);
    }

    static void testSentences() {
        about(3);
        String four = "person a costs 1;person b costs 1;person c costs 1;person d costs 1;";
        fault(four, 0, 0);
        fault(four + "person e costs 1;", 5, 68);
        fault("thing a;thing b;thing c;", 0, 0);
        fault("thing a;thing b;thing c;thing d;", 5, 24);
        fault("thing a;thing b;thing c;thing", 5, 24);
        for (String word : new String[] {"person", "costs", "thing", "makes", "with", "not", "and", "or"}) {
            fault("thing " + word + ";", 1, 6);
            fault("person " + word + " costs 1;", 1, 7);
        }
        fault("thing 5;", 1, 6);
        fault("thing a b;", 1, 8);
        fault("thing a;thing a;", 3, 14);
        fault("thing a;person a costs 1;", 3, 15);
        fault("person a costs 1;thing a;", 3, 23);
        fault("person a costs 1;person a costs 1;", 3, 24);
        fault("person a cost 1;", 1, 9);
        fault("person a costs;", 1, 14);
        fault("person a costs 1000;", 4, 15);
        fault("person a costs 1 2 1000;", 4, 19);
        fault("person a costs 1 2 3;", 0, 0);
        fault("person a costs 1 2 3 4;", 1, 21);
        fault("person a costs 1 2 3 1000;", 1, 21);
        fault("person a costs 1 a;", 1, 17);
        fault("a;", 1, 0);
        fault("5;", 1, 0);
    }

    static void testLines() {
        about(3);
        String eight = "thing a;";
        for (int i = 0; i < 8; i++) {
            eight += "makes 1 with a;";
        }
        fault(eight, 0, 0);
        fault(eight + "makes 1 with a;", 5, 128);
        fault("makes 1 with a;", 2, 13);
        fault("thing a;makes a with a;", 2, 14);
        fault("thing a;makes 1 with b;", 2, 21);
        fault("thing a;makes 1 with a a;", 3, 23);
        fault("thing a;makes 1 with a b;", 2, 23);
        fault("thing a;makes 1 with with;", 1, 21);
        fault("thing a;makes 1 with ;", 1, 21);
        fault("thing a;makes 1 with a 1;", 1, 23);
        fault("thing a;makes 1;", 1, 15);
        fault("thing a;makes with a;", 1, 14);
        fault("thing a;makes 1 2 with a;", 1, 16);
        fault("thing a;makes -1 with a;", 1, 14);
        fault("thing a;makes 1+ with a;", 1, 17);
        fault("thing a;makes 1 not 1 with a;", 1, 16);
        fault("thing a;makes (1 with a;", 1, 17);
        fault("thing a;makes 1) with a;", 1, 15);
        fault("thing a;makes () with a;", 1, 15);
        fault("thing a;makes 1<2<3 with a;", 1, 17);
        fault("thing a;makes 1=2<3 with a;", 1, 17);
        fault("thing a;makes 1=2=3 with a;", 1, 17);
        fault("thing a;makes (1<2)<(2=3) with a;", 0, 0);
        fault("thing a;makes 1<2 and 3=4 or 5 with a;", 0, 0);
        fault("thing a;makes ((((1)))) with a;", 0, 0);
        fault("thing a;makes (((((1))))) with a;", 5, 19);
        fault("thing a;makes (((((b))))) with a;", 2, 19);
        fault("thing a;makes (((((a))))) with a;", 2, 19);
        fault("thing a;makes (((((+))))) with a;", 1, 19);
        fault("thing a;makes ((((((1)))))) with a;", 5, 19);
        fault("thing a;makes not not not not 1 with a;", 0, 0);
        fault("thing a;makes not not not not not 1 with a;", 5, 34);
        fault("thing a;makes not not not not not not 1 with a;", 5, 34);
        fault("thing a;makes not(not(not 1)) with a;", 5, 26);
        fault("thing a;makes not(not(1)) with a;", 0, 0);
        fault("thing a;makes ((1+((2)))*((3))) with a;", 0, 0);
        fault("person a costs 1;makes (((((a))))) with a;", 5, 28);
    }

    static void testWorksState() {
        about(3);
        WhoseKiln x = of(KILN);
        x.own(0, 1, 1);
        x.bargain(2, 1);
        due("works of a wrong text", works(x, "thing a;thing a;"), 3 + 16 * 14);
        due("count(5) behind a fault", x.count(5), 0);
        due("count(0) behind a fault", x.count(0), 2);
        due("owner behind a fault", x.owner(0, 0), 1);
        due("share behind a fault", x.share(1, 0, 0), 10);
        x.later(0, 2, 1);
        x.chance(10);
        due("works once more", works(x, KILN), 0);
        due("owner behind works", x.owner(0, 0), 0);
        due("owner behind works", x.owner(0, 1), 1);
        x.own(0, 1, 1);
        due("share behind works", x.share(0, 1, 0), 10);
        due("share behind works", x.share(0, 1, 1), 1);
        due("works of nothing", x.works(), 0);
        due("count(0) behind nothing", x.count(0), 0);
        due("count(1) behind nothing", x.count(1), 0);
        due("count(2) behind nothing", x.count(2), 0);
    }

    static void testCost() {
        about(4);
        WhoseKiln x = of("person a costs 0 999 7;person b costs 5;");
        due("cost(0, 0)", x.cost(0, 0), 0);
        due("cost(0, 1)", x.cost(0, 1), 0);
        due("cost(0, 2)", x.cost(0, 2), 999);
        due("cost(0, 3)", x.cost(0, 3), 7);
        due("cost(1, 0)", x.cost(1, 0), 0);
        due("cost(1, 1)", x.cost(1, 1), 5);
        due("cost(1, 2)", x.cost(1, 2), NONE);
        due("cost(0, 4)", x.cost(0, 4), NONE);
        due("cost(0, -1)", x.cost(0, -1), NONE);
        due("cost(-1, 0)", x.cost(-1, 0), NONE);
        due("cost(2, 0)", x.cost(2, 0), NONE);
        works(x, "person c costs 1;");
        due("cost(0, 2) of new works", x.cost(0, 2), NONE);
        due("cost(0, 1) of new works", x.cost(0, 1), 1);
    }

    static void testWorth() {
        about(5);
        WhoseKiln x = of(KILN);
        due("worth(3, 1, 6)", x.worth(3, 1, 6), 26);
        due("worth(3, 0, 6)", x.worth(3, 0, 6), 10);
        due("worth(2, 1, 6)", x.worth(2, 1, 6), 6);
        due("worth(0, 1, 6)", x.worth(0, 1, 6), 0);
        for (int bad : new int[] {-1, 4, MIN, MAX}) {
            fails("worth(" + bad + ", 1, 0)", () -> x.worth(bad, 1, 0));
        }
        for (int bad : new int[] {-1, 2, MIN, MAX}) {
            fails("worth(3, " + bad + ", 0)", () -> x.worth(3, bad, 0));
        }
        for (int bad : new int[] {-1, 3, 7, 8, 16, 256, MIN, MAX}) {
            fails("worth(3, 1, " + bad + ")", () -> x.worth(3, 1, bad));
        }
        // What one's pains bring need not hang on one's being there.
        WhoseKiln y = of("person a costs 1;person b costs 1;thing t;makes b*4 with a t;makes 3 with t;");
        due("worth(1, 1, 4)", y.worth(1, 1, 4), 7);
        due("worth(0, 1, 4)", y.worth(0, 1, 4), 3);
        due("worth(1, 0, 4)", y.worth(1, 0, 4), 0);
        WhoseKiln z = of("thing t;makes 3 with t;");
        due("worth of nobody", z.worth(0, 1, 0), 3);
        fails("worth of nobody by a step", () -> z.worth(0, 1, 1));
    }

    static void value(String expression, int step, int want) {
        WhoseKiln x = of("person a costs 0 0 0;makes " + expression + " with a;");
        due(expression + " by " + step, x.worth(1, 0, step), want);
    }

    static void testExpressions() {
        about(5);
        value("2+3*4", 0, 14);
        value("(2+3)*4", 0, 20);
        value("10-3-2", 0, 5);
        value("10-3+2", 0, 9);
        value("2*3<7", 0, 1);
        value("7<7", 0, 0);
        value("8<7", 0, 0);
        value("1+1=2", 0, 1);
        value("1=2", 0, 0);
        value("not 0", 0, 1);
        value("not 5", 0, 0);
        value("not a*2", 0, 2);
        value("not a*2", 1, 0);
        value("not (a<2)", 3, 1);
        value("5 and 0", 0, 0);
        value("5 and 7", 0, 1);
        value("0 or 3", 0, 1);
        value("0 or 0", 0, 0);
        value("1 or 0 and 0", 0, 0);
        value("0 and 0 or 7", 0, 1);
        value("1<2 and 2<3", 0, 1);
        value("a", 3, 3);
        value("a*a*a", 2, 8);
        value("3-9", 0, -6);
        value("9999*10+9", 0, 99999);
        value("9999*10+10", 0, 99999);
        value("0-9999*10-9", 0, -99999);
        value("0-9999*10-10", 0, -99999);
        value("0-9999*10-8", 0, -99998);
        value("4096*4096*256+5", 0, 5);
        value("4096*4096*128", 0, -99999);
        value("0-4096*4096*128-1", 0, 99999);
        WhoseKiln x = of("person a costs 1;makes 4096*4096*64 with a;makes 4096*4096*64 with a;");
        due("a sum beyond ints", x.worth(1, 0, 0), 99999);
        WhoseKiln y = of("person a costs 1;makes 9999*99 with a;makes 7-9999*99 with a;");
        due("a sum that is cut last", y.worth(1, 0, 0), 7);
    }

    static void testOwn() {
        about(6);
        WhoseKiln x = of(TRIO);
        due("own(0, 7, 3)", x.own(0, 7, 3), true);
        due("own(0, 7, 4)", x.own(0, 7, 4), false);
        due("own(0, 7, 0)", x.own(0, 7, 0), false);
        due("own(0, 7, -1)", x.own(0, 7, -1), false);
        due("own(0, 8, 1)", x.own(0, 8, 1), false);
        due("own(0, -1, 1)", x.own(0, -1, 1), false);
        due("own(1, 1, 1)", x.own(1, 1, 1), false);
        due("own(-1, 1, 1)", x.own(-1, 1, 1), false);
        due("own(0, MIN, 1)", x.own(0, MIN, 1), false);
        due("own(0, 1, MAX)", x.own(0, 1, MAX), false);
        about(7);
        due("owner(0, 0)", x.owner(0, 0), 7);
        due("owner(0, 1)", x.owner(0, 1), 3);
        about(6);
        due("own(0, 0, 2)", x.own(0, 0, 2), false);
        due("own(0, 0, 0)", x.own(0, 0, 0), false);
        due("own(0, 5, 2)", x.own(0, 5, 2), true);
        due("own(0, 5, 3)", x.own(0, 5, 3), false);
        about(7);
        due("owner(0, 0)", x.owner(0, 0), 5);
        due("owner(0, 1)", x.owner(0, 1), 2);
        due("own(0, 0, 1)", x.own(0, 0, 1), true);
        due("owner(0, 0)", x.owner(0, 0), 0);
        due("owner(0, 1)", x.owner(0, 1), 1);
        due("owner(0, 2)", x.owner(0, 2), NONE);
        due("owner(0, -1)", x.owner(0, -1), NONE);
        due("owner(1, 0)", x.owner(1, 0), NONE);
        due("owner(-1, 0)", x.owner(-1, 0), NONE);
    }

    static void testLater() {
        about(8);
        WhoseKiln x = of(KILN + "thing shed;makes 4 with ann shed;");
        x.own(0, 1, 1);
        x.own(1, 1, 1);
        due("chance(10)", x.chance(10), true);
        // Of the kiln and the shed nothing is told: both stay ann's.
        due("share(0, 1, 0)", x.share(0, 1, 0), 14);
        due("later(0, 2, 1)", x.later(0, 2, 1), true);
        // ann alone then makes 4, bob alone 0, both 19.
        due("share(0, 1, 0) later", x.share(0, 1, 0), 23);
        due("share(0, 1, 1) later", x.share(0, 1, 1), 2);
        due("owner(0, 0)", x.owner(0, 0), 1);
        due("has(1)", x.has(1), 3);
        x.own(1, 2, 1);
        // The shed goes as it is owned now.
        due("share(0, 1, 0) later, shed with bob", x.share(0, 1, 0), 19);
        due("share(0, 1, 1) later, shed with bob", x.share(0, 1, 1), 2);
        due("later(0, 0, 1)", x.later(0, 0, 1), true);
        due("later(0, 0, 2)", x.later(0, 0, 2), false);
        due("later(0, 3, 3)", x.later(0, 3, 3), false);
        due("later(0, 3, 0)", x.later(0, 3, 0), false);
        due("later(0, 4, 1)", x.later(0, 4, 1), false);
        due("later(0, -1, 1)", x.later(0, -1, 1), false);
        due("later(2, 1, 1)", x.later(2, 1, 1), false);
        due("later(-1, 1, 1)", x.later(-1, 1, 1), false);
        about(9);
        due("chance(0)", x.chance(0), true);
        due("share(0, 1, 0) without a chance", x.share(0, 1, 0), 12);
        due("chance(11)", x.chance(11), false);
        due("chance(-1)", x.chance(-1), false);
        due("share(0, 1, 0) still", x.share(0, 1, 0), 12);
        x.own(1, 1, 1);
        x.later(0, 2, 1);
        due("chance(3)", x.chance(3), true);
        // 7 of ten of 14 and 3 of ten of 23/2: 265/20.
        due("share(0, 1, 0) by 3 of ten", x.share(0, 1, 0), 53);
        due("share(0, 1, 1) by 3 of ten", x.share(0, 1, 1), 4);
        due("chance of nobody", new WhoseKiln().chance(10), true);
        // The told later owning stands beside a plain owning too.
        WhoseKiln y = of(KILN);
        y.own(0, 1, 1);
        y.chance(10);
        due("reached(0) without a later one", y.reached(0), 12);
        y.later(0, 2, 1);
        due("reached(0) with a later one", y.reached(0), 12);
        due("rest(0) with a later one", y.rest(0), 4);
        due("isRest(1) with a later one", y.isRest(1), 0);
    }

    static void testHas() {
        about(10);
        WhoseKiln x = of("person a costs 1;person b costs 1;person c costs 1;thing t;thing u;");
        x.own(0, 7, 2);
        due("has(0)", x.has(0), 0);
        due("has(1)", x.has(1), 0);
        due("has(6)", x.has(6), 1);
        due("has(7)", x.has(7), 3);
        x.own(1, 4, 1);
        due("has(3)", x.has(3), 1);
        due("has(4)", x.has(4), 2);
        due("has(5)", x.has(5), 3);
        for (int bad : new int[] {-1, 8, MIN, MAX}) {
            due("has(" + bad + ")", x.has(bad), NONE);
        }
        due("has(1) of one alone", of("person a costs 1;thing t;").has(1), 1);
        due("has(0) of nobody", of("thing t;").has(0), 1);
    }

    static void testMakes() {
        about(11);
        WhoseKiln x = of(KILN);
        due("makes(3, 5)", x.makes(3, 5), 21);
        due("makes(1, 5)", x.makes(1, 5), 0);
        x.own(0, 2, 1);
        due("makes(2, 5)", x.makes(2, 5), 6);
        due("makes(1, 5)", x.makes(1, 5), 0);
        due("makes(0, 5)", x.makes(0, 5), 0);
        fails("makes(4, 5)", () -> x.makes(4, 5));
        fails("makes(-1, 5)", () -> x.makes(-1, 5));
        fails("makes(3, 3)", () -> x.makes(3, 3));
        fails("makes(3, 8)", () -> x.makes(3, 8));
        fails("makes(3, 16)", () -> x.makes(3, 16));
        fails("makes(3, -1)", () -> x.makes(3, -1));
    }

    static void testBargain() {
        about(12);
        WhoseKiln x = of(TRIO);
        due("bargain(2, 2)", x.bargain(2, 2), true);
        due("bargain(2, 3)", x.bargain(2, 3), false);
        due("bargain(2, -1)", x.bargain(2, -1), false);
        due("bargain(3, 0)", x.bargain(3, 0), false);
        due("bargain(-1, 0)", x.bargain(-1, 0), false);
        due("share of the asker", x.share(2, 0, 0), 27);
        due("share of another", x.share(0, 0, 0), 0);
        due("bargain(0, 0) of nobody", new WhoseKiln().bargain(0, 0), false);
        due("bargain(1, 1)", x.bargain(1, 1), true);
        for (int p = 0; p < 3; p++) {
            due("even part of " + p, x.share(p, 0, 0), 9);
        }
        due("bargain(0, 1)", x.bargain(0, 1), true);
        due("in all orders 0", x.share(0, 0, 0), 12);
        due("in all orders 1", x.share(1, 0, 0), 9);
        due("in all orders 2", x.share(2, 0, 0), 6);
        // What one makes alone comes first.
        WhoseKiln y = of("person a costs 1;person b costs 1;person c costs 1;makes 7 with a;makes 2 with b;makes 12 with a b c;");
        y.bargain(1, 0);
        due("alone and an even part", y.share(0, 0, 0), 11);
        due("alone and an even part", y.share(1, 0, 0), 6);
        due("alone and an even part", y.share(2, 0, 0), 4);
        y.bargain(2, 1);
        due("alone", y.share(0, 0, 0), 7);
        due("the asker's rest", y.share(1, 0, 0), 14);
        due("alone", y.share(2, 0, 0), 0);
    }

    static void testShare() {
        about(13);
        share(of("person a costs 1;person b costs 1;makes 0-7 with a b;"), 1, 0, -7, 2);
        share(of("person a costs 1;person b costs 1;makes 0-8 with a b;"), 1, 0, -4, 1);
        share(of("person a costs 1;makes 5 with a;"), 0, 1, 5, 1);
        WhoseKiln three = of("person a costs 1;person b costs 1;person c costs 1;makes 1 with a b c;makes 1 with a b;");
        share(three, 0, 0, 5, 6);
        share(three, 2, 0, 1, 3);
        WhoseKiln four = of("person a costs 1;person b costs 1;person c costs 1;person d costs 1;thing t;"
            + "makes 1 with a b c d;makes 1 with a b c;makes 1 with a b;makes 5 with d t;");
        // 1/4 + 1/3 + 1/2 and, as all of them have the thing only together, a fourth of 5.
        share(four, 0, 0, 7, 3);
        share(four, 3, 0, 3, 2);
        four.own(0, 8, 1);
        share(four, 0, 0, 13, 12);
        share(four, 3, 0, 21, 4);
        four.later(0, 1, 1);
        four.chance(1);
        // One of ten: a and d then share the 5: 13/12 + 5/20.
        share(four, 0, 0, 4, 3);
        share(of(KILN), 0, 0, 5, 1);
        WhoseKiln nothing = of("person a costs 1;");
        share(nothing, 0, 0, 0, 1);
        WhoseKiln large = of("person a costs 1;person b costs 1;person c costs 1;makes 9999*11 with a b c;makes 0-9999*11 with a b;");
        // The two alone are cut to -99999, all together make nothing.
        share(large, 2, 0, 33333, 1);
        share(large, 0, 0, -33333, 2);
        fails("share(0, 0, 2)", () -> large.share(0, 0, 2));
        fails("share(0, 0, -1)", () -> large.share(0, 0, -1));
        fails("share(3, 0, 0)", () -> large.share(3, 0, 0));
        fails("share(-1, 0, 0)", () -> large.share(-1, 0, 0));
        fails("share(0, 2, 0)", () -> large.share(0, 2, 0));
        fails("share(0, 64, 0)", () -> large.share(0, 64, 0));
        fails("share(0, -1, 0)", () -> large.share(0, -1, 0));
    }

    static void testWould() {
        about(14);
        WhoseKiln x = of(KILN);
        x.own(0, 1, 1);
        // 10 - 3 and 15 - 8 are the same: the lesser step.
        due("would(0, 0)", x.would(0, 0), 1);
        due("would(0, 2)", x.would(0, 2), 1);
        due("would(1, 4)", x.would(1, 4), 0);
        x.bargain(2, 1);
        due("would(1, 0)", x.would(1, 0), 1);
        due("would(2, 0)", x.would(2, 0), NONE);
        due("would(-1, 0)", x.would(-1, 0), NONE);
        due("would(0, 3)", x.would(0, 3), NONE);
        due("would(0, -1)", x.would(0, -1), NONE);
        due("would(0, 16)", x.would(0, 16), NONE);
        due("would(0, 0) of nobody", new WhoseKiln().would(0, 0), NONE);
        due("a third step", of("person a costs 1 2 3;makes a*a with a;").would(0, 0), 3);
        due("no step", of("person a costs 1 2 3;makes a with a;").would(0, 3), 0);
    }

    static void testIsRest() {
        about(15);
        WhoseKiln x = of(KILN);
        x.own(0, 1, 1);
        due("isRest(0)", x.isRest(0), 0);
        due("isRest(1)", x.isRest(1), 1);
        due("isRest(2), an equal step", x.isRest(2), 1);
        due("isRest(5)", x.isRest(5), 0);
        due("isRest(3)", x.isRest(3), NONE);
        due("isRest(-1)", x.isRest(-1), NONE);
        due("isRest(8)", x.isRest(8), NONE);
        due("isRest(16)", x.isRest(16), NONE);
        due("isRest(0) of nobody", new WhoseKiln().isRest(0), NONE);
    }

    static void testRest() {
        about(16);
        WhoseKiln x = of(KILN);
        due("rest(0)", x.rest(0), 0);
        due("rest(1)", x.rest(1), 1);
        due("rest(2)", x.rest(2), 10);
        x.own(0, 1, 1);
        due("rest(0)", x.rest(0), 1);
        due("rest(1)", x.rest(1), 2);
        due("rest(2)", x.rest(2), 12);
        fails("rest(3)", () -> x.rest(3));
        fails("rest(-1)", () -> x.rest(-1));
        fails("rest of nobody", () -> of("thing t;makes 1 with t;").rest(0));
        WhoseKiln chase = of(CHASE);
        for (int what = 0; what <= 2; what++) {
            int w = what;
            fails("rest(" + what + ") without an end", () -> chase.rest(w));
        }
        // Person 0 goes first: a steps, then b has no cause to.
        WhoseKiln one = of("person a costs 1;person b costs 1;makes 10*(a+b=1) with a;makes 10*(a+b=1) with b;");
        due("rest(0) of the first to step", one.rest(0), 1);
    }

    static void testRounds() {
        about(16);
        WhoseKiln x = of(IN_THIRTY);
        due("rest(1) at the edge", x.rest(1), 30);
        due("isRest(rest(0))", x.isRest(x.rest(0)), 1);
        WhoseKiln y = of(IN_THIRTY_ONE);
        fails("rest(1) beyond the edge", () -> y.rest(1));
        due("rests(0) beyond the edge", y.rests(0) > 0, true);
        fails("reached(0) beyond the edge", () -> y.reached(0));
    }

    static void testRests() {
        about(17);
        WhoseKiln x = of(KILN);
        x.own(0, 1, 1);
        due("rests(0)", x.rests(0), 2);
        due("rests(1)", x.rests(1), 1);
        due("rests(2)", x.rests(2), 1);
        due("rests(3)", x.rests(3), NONE);
        due("rests(-1)", x.rests(-1), NONE);
        // Both step or neither does.
        WhoseKiln y = of("person a costs 1;person b costs 1;makes a*b*10 with a b;");
        due("rests(0)", y.rests(0), 2);
        due("rests(1)", y.rests(1), 0);
        due("rests(2)", y.rests(2), 5);
        WhoseKiln z = of("person a costs 1;person b costs 1;makes 0-a*b*10 with a b;makes 3*a with a;makes 6*b with b;");
        // Where a steps b is as well off by either.
        due("rests(0)", z.rests(0), 2);
        due("rests(1)", z.rests(1), 1);
        due("rests(2)", z.rests(2), 4);
        WhoseKiln chase = of(CHASE);
        due("rests(0) of a chase", chase.rests(0), 0);
        due("rests(1) of a chase", chase.rests(1), NONE);
        due("rests(2) of a chase", chase.rests(2), NONE);
        for (int what = 0; what <= 2; what++) {
            due("rests(" + what + ") of nobody", new WhoseKiln().rests(what), NONE);
        }
        WhoseKiln all = of("person a costs 0 0 0;person b costs 0 0;");
        due("rests(0) of equal ones", all.rests(0), 12);
        due("rests(1) of equal ones", all.rests(1), 0);
        due("rests(2) of equal ones", all.rests(2), 0);
    }

    static void testGoodBestLost() {
        WhoseKiln x = of(KILN);
        about(18);
        due("good(0)", x.good(0), 10);
        due("good(2)", x.good(2), 12);
        due("good(6)", x.good(6), 14);
        fails("good(3)", () -> x.good(3));
        fails("good(8)", () -> x.good(8));
        fails("good(-1)", () -> x.good(-1));
        fails("good(0) of nobody", () -> of("thing t;makes 1 with t;").good(0));
        about(19);
        // 5 and 6 are equally good.
        due("best(0)", x.best(0), 5);
        due("best(1)", x.best(1), 14);
        fails("best(2)", () -> x.best(2));
        fails("best(-1)", () -> x.best(-1));
        fails("best(0) of nobody", () -> of("thing t;makes 1 with t;").best(0));
        about(20);
        due("lost(0)", x.lost(0), 4);
        due("lost(1)", x.lost(1), 2);
        due("lost(5)", x.lost(5), 0);
        due("lost(3)", x.lost(3), NONE);
        due("lost(8)", x.lost(8), NONE);
        due("lost(-1)", x.lost(-1), NONE);
        due("lost(0) of nobody", of("thing t;makes 1 with t;").lost(0), NONE);
        about(19);
        WhoseKiln y = of("person a costs 9;person b costs 9;makes 0-5 with a;");
        due("best(0)", y.best(0), 0);
        due("best(1)", y.best(1), -5);
        about(20);
        due("lost(5)", y.lost(5), 18);
    }

    static void testReached() {
        about(21);
        WhoseKiln x = of(KILN);
        due("reached(0)", x.reached(0), 12);
        due("reached(1)", x.reached(1), 12);
        due("reached(2)", x.reached(2), 10);
        due("reached(3)", x.reached(3), 10);
        fails("reached(4)", () -> x.reached(4));
        fails("reached(-1)", () -> x.reached(-1));
        fails("reached(MAX)", () -> x.reached(MAX));
        fails("reached(0) of nobody", () -> of("thing t;").reached(0));
        fails("reached(0) of a chase", () -> of(CHASE).reached(0));
        x.bargain(2, 1);
        // bob asks: he gets all that ann does not make alone.
        due("reached(0) when bob asks", x.reached(0), 14);
        due("reached(1) when bob asks", x.reached(1), 12);
        x.mark(0, false);
        works(x, KILN);
        due("reached(0) of new works", x.reached(0), 12);
        x.mark(0, true);
        due("reached(0) of the mark", x.reached(0), 14);
        due("reached(0) without things", of("person a costs 1;makes a*2 with a;").reached(0), 1);
        // The first thing is the last digit: 1 is the first with b, 4 the second with b.
        WhoseKiln two = of("person a costs 5;person b costs 4;thing t;thing u;makes a*9 with a t;makes b*7 with b u;");
        due("reached(0)", two.reached(0), 4);
        due("reached(1)", two.reached(1), 0);
        due("reached(4)", two.reached(4), 7);
        due("reached(5)", two.reached(5), 3);
        due("reached(10)", two.reached(10), 0);
        due("reached(15)", two.reached(15), 0);
        due("reached(12), the second with nobody", two.reached(12), 4);
        fails("reached(16)", () -> two.reached(16));
    }

    static void testFirstGapJoint() {
        WhoseKiln two = of("person a costs 1;person b costs 1;thing t;thing u;makes a*9 with a t;makes b*7 with b u;");
        two.bargain(2, 1);
        // b asks: a takes pains for the first thing only if it is a's own; b always does.
        about(22);
        due("first(0)", two.first(0), 0);
        due("first(1)", two.first(1), 4);
        due("first(2)", two.first(2), 0);
        due("first(3)", two.first(3), NONE);
        due("first(-1)", two.first(-1), NONE);
        about(23);
        due("gap()", two.gap(), 8);
        two.own(0, 1, 1);
        due("gap() when a has it", two.gap(), 0);
        about(24);
        due("joint(0)", two.joint(0), 0);
        due("joint(1)", two.joint(1), 4);
        due("joint(2)", two.joint(2), NONE);
        due("joint(-1)", two.joint(-1), NONE);
        WhoseKiln x = of("person a costs 1;person b costs 5;thing t;makes a*9 with a t;makes b*3 with b t;");
        // Of a step b gets at most 3 for 5; a: 9 as the owner, 4.5 else; all reach 8.
        due("joint(0)", x.joint(0), 0);
        due("joint(1)", x.joint(1), 0);
        WhoseKiln y = of("person a costs 1;person b costs 5;thing t;makes 0-a*9 with a b;makes a*6 with a t;makes 8-b with b;");
        about(22);
        // a's own thing tempts a: 6 - 4.5 - 1 is more than nothing, and the good falls by 4.
        due("first(0)", y.first(0), 1);
        due("first(1)", y.first(1), 3);
        about(24);
        due("joint(0)", y.joint(0), 1);
        due("joint(1)", y.joint(1), 0);
        about(23);
        due("gap()", y.gap(), 0);
        y.own(0, 1, 1);
        due("gap()", y.gap(), 4);
        WhoseKiln chase = of(CHASE);
        about(22);
        due("first(0) of a chase", chase.first(0), NONE);
        due("first(1) of a chase", chase.first(1), NONE);
        due("first(2) of a chase", chase.first(2), 4);
        about(23);
        due("gap() of a chase", chase.gap(), NONE);
        about(24);
        due("joint(0) of a chase", chase.joint(0), NONE);
        testWithoutEnd();
    }

    /** Where the owner of t is not b the two chase one another. */
    static void testWithoutEnd() {
        WhoseKiln x = of(CHASE + "makes 15*(1-b) with b k;");
        about(21);
        fails("reached(0)", () -> x.reached(0));
        due("reached(1)", x.reached(1), 25);
        about(22);
        due("first(0)", x.first(0), 1);
        due("first(1)", x.first(1), 1);
        due("first(2)", x.first(2), 3);
        about(24);
        due("joint(0) without an end", x.joint(0), NONE);
        due("joint(1) without an end", x.joint(1), NONE);
        about(23);
        due("gap() without an end as it is", x.gap(), NONE);
        x.own(0, 2, 1);
        due("gap() as b's", x.gap(), 0);
        for (int what = 0; what <= 2; what++) {
            about(22);
            due("first(" + what + ") of nobody", of("thing t;").first(what), NONE);
        }
        about(23);
        due("gap() of nobody", of("thing t;").gap(), NONE);
        about(24);
        due("joint(0) of nobody", of("thing t;").joint(0), NONE);
    }

    static void testApart() {
        about(25);
        WhoseKiln x = of("person a costs 1;thing t;thing u;thing v;makes 9*a with a t u;makes 2 with v;");
        due("apart(0, 1)", x.apart(0, 1), 1);
        due("apart(1, 0)", x.apart(1, 0), 1);
        due("apart(0, 2)", x.apart(0, 2), 0);
        due("apart(2, 0)", x.apart(2, 0), 0);
        due("apart(0, 0)", x.apart(0, 0), NONE);
        due("apart(0, 3)", x.apart(0, 3), NONE);
        due("apart(-1, 0)", x.apart(-1, 0), NONE);
        // Beside a third thing one is worth something without the other.
        WhoseKiln y = of("person a costs 1;thing t;thing u;thing v;makes 9*a with a t u;makes a with a t v;");
        due("apart(0, 1)", y.apart(0, 1), 0);
        due("apart(1, 2)", y.apart(1, 2), 0);
        // Less is not more.
        WhoseKiln z = of("person a costs 1;thing t;thing u;makes 9*a with a t u;makes 0-5 with t;");
        due("apart(0, 1)", z.apart(0, 1), 1);
        // Of some pains alone it is worth more.
        WhoseKiln w = of("person a costs 1 1 1;thing t;thing u;makes a=3 with a u;");
        due("apart(0, 1)", w.apart(0, 1), 0);
        due("apart(0, 1) of nobody", of("thing t;thing u;makes 5 with t u;").apart(0, 1), 1);
    }

    static void testOneHand() {
        about(26);
        // Who has both works; with other hands a step brings half of its 10 for 6.
        WhoseKiln x = of("person a costs 6;person b costs 9;thing t;thing u;makes a*10 with a t u;makes b with b;");
        due("oneHand(0, 1)", x.oneHand(0, 1), 4);
        due("oneHand(1, 0)", x.oneHand(1, 0), 4);
        fails("oneHand(0, 0)", () -> x.oneHand(0, 0));
        fails("oneHand(0, 2)", () -> x.oneHand(0, 2));
        fails("oneHand(-1, 0)", () -> x.oneHand(-1, 0));
        fails("oneHand of nobody", () -> of("thing t;thing u;").oneHand(0, 1));
        fails("oneHand of a chase", () -> of(CHASE + "thing u;").oneHand(0, 1));
        // One line each: apart they reach more.
        WhoseKiln y = of("person a costs 6;person b costs 6;thing t;thing u;makes a*10 with a t;makes b*10 with b u;");
        due("oneHand(0, 1)", y.oneHand(0, 1), -4);
        // Only where both things are b's there is an end.
        WhoseKiln z = of(CHASE + "thing u;makes 15*(1-b) with b k u;");
        due("first(0)", z.first(0), 5);
        due("first(2)", z.first(2), 15);
        fails("oneHand where others reach nothing", () -> z.oneHand(0, 1));
    }

    static void testWritten() {
        WhoseKiln x = of(KILN);
        x.own(0, 1, 1);
        about(27);
        due("written(1, 1)", x.written(1, 1), 14);
        due("written(1, 0)", x.written(1, 0), 12);
        due("written(0, 2)", x.written(0, 2), 12);
        due("written(0, 0)", x.written(0, 0), 10);
        fails("written(1, 2)", () -> x.written(1, 2));
        fails("written(0, -1)", () -> x.written(0, -1));
        fails("written(2, 0)", () -> x.written(2, 0));
        fails("written(-1, 0)", () -> x.written(-1, 0));
        about(28);
        due("writing(1, 0)", x.writing(1, 0), 1);
        due("writing(1, 1)", x.writing(1, 1), 2);
        // 12 by one step and by two: the lesser.
        due("writing(0, 0)", x.writing(0, 0), 1);
        due("writing(0, 1)", x.writing(0, 1), 0);
        fails("writing(0, 2)", () -> x.writing(0, 2));
        fails("writing(0, -1)", () -> x.writing(0, -1));
        fails("writing(2, 0)", () -> x.writing(2, 0));
        fails("writing of nobody", () -> new WhoseKiln().writing(0, 0));
        WhoseKiln chase = of(CHASE);
        about(27);
        due("written(0, 0) in a chase", chase.written(0, 0), 9);
        due("written(1, 0) in a chase", chase.written(1, 0), 10);
        about(28);
        fails("writing(0, 0) in a chase", () -> chase.writing(0, 0));
        fails("writing(0, 1) in a chase", () -> chase.writing(0, 1));
        // Two chase one another whatever the third has written down.
        WhoseKiln third = of(CHASE + "person c costs 1;");
        about(27);
        fails("written(2, 0) beside a chase", () -> third.written(2, 0));
        about(28);
        fails("writing(2, 0) beside a chase", () -> third.writing(2, 0));
        // By c's second step alone the chase has no end: that one is passed over.
        WhoseKiln some = of("person a costs 1;person b costs 1;person c costs 1 1;"
            + "makes 10*(a=b)*(c=2) with a;makes 10*(1-(a=b))*(c=2) with b;makes c*9-(c=2)*99 with c;");
        due("writing(2, 0)", some.writing(2, 0), 1);
        due("writing(2, 1)", some.writing(2, 1), 0);
    }

    static void testRight() {
        about(29);
        WhoseKiln x = of(KILN);
        x.own(0, 1, 1);
        // For nothing bob buys, and takes the pains; for 5 he does not.
        due("right(0, 1, 0, 0)", x.right(0, 1, 0, 0), 4);
        due("right(0, 1, 0, 1)", x.right(0, 1, 0, 1), 12);
        due("right(0, 1, 0, 2)", x.right(0, 1, 0, 2), 1);
        due("right(0, 1, 5, 0)", x.right(0, 1, 5, 0), 1);
        due("right(0, 1, 5, 2)", x.right(0, 1, 5, 2), 0);
        due("rest(0) behind it", x.rest(0), 1);
        due("owner(0, 0) behind it", x.owner(0, 0), 1);
        // The owner buys what is hers for no more than it is worth to her: nothing changes.
        due("right(0, 0, 0, 2)", x.right(0, 0, 0, 2), 0);
        due("right(0, 0, 0, 0)", x.right(0, 0, 0, 0), 1);
        fails("right(1, 1, 0, 0)", () -> x.right(1, 1, 0, 0));
        fails("right(-1, 1, 0, 0)", () -> x.right(-1, 1, 0, 0));
        fails("right(0, 2, 0, 0)", () -> x.right(0, 2, 0, 0));
        fails("right(0, -1, 0, 0)", () -> x.right(0, -1, 0, 0));
        fails("right(0, 1, -1, 0)", () -> x.right(0, 1, -1, 0));
        fails("right(0, 1, 10000, 0)", () -> x.right(0, 1, 10000, 0));
        due("right(0, 1, 9999, 2)", x.right(0, 1, 9999, 2), 0);
        fails("right(0, 1, 0, 3)", () -> x.right(0, 1, 0, 3));
        fails("right(0, 1, 0, -1)", () -> x.right(0, 1, 0, -1));
        fails("right in a chase", () -> of(CHASE).right(0, 0, 0, 0));
        // Owned by both with a need of both: as the only owner a has 10 for 5, and pays half the price to a.
        WhoseKiln y = of("person a costs 99;person b costs 99;thing t;makes 10 with a t;makes 0*b with a b;");
        y.own(0, 3, 2);
        due("right(0, 0, 9, 2)", y.right(0, 0, 9, 2), 1);
        due("right(0, 0, 10, 2), no more than before", y.right(0, 0, 10, 2), 0);
        y.own(0, 0, 1);
        due("right(0, 0, 4, 2) of nobody's", y.right(0, 0, 4, 2), 1);
        due("right(0, 0, 5, 2) of nobody's", y.right(0, 0, 5, 2), 0);
        // What is paid counts for the seller's pains: a steps that the buyer may have cause to buy.
        WhoseKiln z = of("person a costs 2;person b costs 99;thing t;makes a*20 with b t;");
        z.own(0, 1, 1);
        // Without a right a steps for half of the 20; by one at 4 b gets 20 - 4 and a only 4.
        due("right(0, 1, 4, 0)", z.right(0, 1, 4, 0), 1);
        due("right(0, 1, 4, 2)", z.right(0, 1, 4, 2), 1);
        due("right(0, 1, 1, 0)", z.right(0, 1, 1, 0), 0);
        due("right(0, 1, 1, 1)", z.right(0, 1, 1, 1), 0);
        due("right(0, 1, 2, 0), no more than its cost", z.right(0, 1, 2, 0), 0);
    }

    static void testRightPrice() {
        about(30);
        WhoseKiln z = of("person a costs 2;person b costs 99;thing t;makes a*20 with b t;");
        z.own(0, 1, 1);
        due("rightPrice(0, 1, 60, 0)", z.rightPrice(0, 1, 60, 0), 3);
        due("rightPrice(0, 1, 60, 1)", z.rightPrice(0, 1, 60, 1), 18);
        due("rightPrice(0, 1, 2, 0)", z.rightPrice(0, 1, 2, 0), 0);
        due("rightPrice(0, 1, 2, 1)", z.rightPrice(0, 1, 2, 1), 0);
        due("rightPrice(0, 1, 0, 0)", z.rightPrice(0, 1, 0, 0), 0);
        due("rightPrice(0, 1, 3, 0)", z.rightPrice(0, 1, 3, 0), 3);
        fails("rightPrice(0, 1, 61, 0)", () -> z.rightPrice(0, 1, 61, 0));
        fails("rightPrice(0, 1, -1, 0)", () -> z.rightPrice(0, 1, -1, 0));
        fails("rightPrice(0, 1, 5, 2)", () -> z.rightPrice(0, 1, 5, 2));
        fails("rightPrice(0, 1, 5, -1)", () -> z.rightPrice(0, 1, 5, -1));
        fails("rightPrice(1, 1, 5, 0)", () -> z.rightPrice(1, 1, 5, 0));
        fails("rightPrice(-1, 1, 5, 0)", () -> z.rightPrice(-1, 1, 5, 0));
        fails("rightPrice(0, 2, 5, 0)", () -> z.rightPrice(0, 2, 5, 0));
        fails("rightPrice(0, -1, 5, 0)", () -> z.rightPrice(0, -1, 5, 0));
        fails("rightPrice in a chase", () -> of(CHASE).rightPrice(0, 1, 60, 0));
    }

    static void testLender() {
        about(31);
        WhoseKiln x = of(KILN);
        x.own(0, 1, 1);
        due("lender(0, 0, 8, 0)", x.lender(0, 0, 8, 0), 0);
        due("lender(0, 0, 8, 1)", x.lender(0, 0, 8, 1), 10);
        due("lender(0, 0, 8, 2)", x.lender(0, 0, 8, 2), 0);
        due("lender(0, 0, 0, 0)", x.lender(0, 0, 0, 0), 1);
        due("lender(0, 0, 0, 2)", x.lender(0, 0, 0, 2), 1);
        // At 5 ann pays by what she gets without pains, and so goes on as without the lender.
        due("lender(0, 0, 5, 0)", x.lender(0, 0, 5, 0), 1);
        due("lender(0, 0, 5, 2)", x.lender(0, 0, 5, 2), 1);
        due("lender(0, 0, 6, 2)", x.lender(0, 0, 6, 2), 0);
        due("rest(0) behind it", x.rest(0), 1);
        due("lender(1, 0, 5, 2), another's pledge", x.lender(1, 0, 5, 2), 1);
        fails("lender(2, 0, 0, 0)", () -> x.lender(2, 0, 0, 0));
        fails("lender(-1, 0, 0, 0)", () -> x.lender(-1, 0, 0, 0));
        fails("lender(0, 1, 0, 0)", () -> x.lender(0, 1, 0, 0));
        fails("lender(0, -1, 0, 0)", () -> x.lender(0, -1, 0, 0));
        fails("lender(0, 0, -1, 0)", () -> x.lender(0, 0, -1, 0));
        fails("lender(0, 0, 10000, 0)", () -> x.lender(0, 0, 10000, 0));
        due("lender(0, 0, 9999, 2)", x.lender(0, 0, 9999, 2), 0);
        fails("lender(0, 0, 0, 3)", () -> x.lender(0, 0, 0, 3));
        fails("lender(0, 0, 0, -1)", () -> x.lender(0, 0, 0, -1));
        fails("lender in a chase", () -> of(CHASE).lender(0, 0, 5, 0));
    }

    static void testHands() {
        about(32);
        WhoseKiln x = of("person a costs 1;person b costs 1;person c costs 1;thing t;thing u;");
        due("hands()", x.hands(), 7);
        x.own(0, 5, 2);
        due("hands()", x.hands(), 2);
        x.own(1, 3, 1);
        due("hands()", x.hands(), 0);
        x.own(0, 0, 1);
        due("hands()", x.hands(), 4);
        due("hands() without things", of("person a costs 1;").hands(), 1);
        due("hands() of nobody", of("thing t;").hands(), NONE);
    }

    static void testLeaving() {
        about(33);
        WhoseKiln x = of(KILN);
        x.own(0, 1, 1);
        due("leaving(0, 5)", x.leaving(0, 5), 21);
        due("leaving(1, 5)", x.leaving(1, 5), 16);
        x.own(0, 0, 1);
        due("leaving(1, 5) of nobody's", x.leaving(1, 5), 21);
        x.chance(10);
        x.later(0, 1, 1);
        due("leaving(1, 5) whatever is later", x.leaving(1, 5), 21);
        fails("leaving(2, 0)", () -> x.leaving(2, 0));
        fails("leaving(-1, 0)", () -> x.leaving(-1, 0));
        fails("leaving(0, 3)", () -> x.leaving(0, 3));
        fails("leaving(0, -1)", () -> x.leaving(0, -1));
        fails("leaving(0, 16)", () -> x.leaving(0, 16));
    }

    static void testEdge() {
        about(34);
        WhoseKiln x = of(KILN);
        due("edge(0, 0, 0)", x.edge(0, 0, 0), 21);
        due("edge(0, 0, 1)", x.edge(0, 0, 1), 9);
        // The 10 of both does not hang on pains.
        due("edge(2, 0, 0)", x.edge(2, 0, 0), NONE);
        due("edge(2, 0, 1)", x.edge(2, 0, 1), NONE);
        due("edge(3, 0, 0)", x.edge(3, 0, 0), NONE);
        due("edge(-1, 0, 0)", x.edge(-1, 0, 0), NONE);
        due("edge(0, 1, 0)", x.edge(0, 1, 0), NONE);
        due("edge(0, -1, 0)", x.edge(0, -1, 0), NONE);
        due("edge(0, 0, 2)", x.edge(0, 0, 2), NONE);
        due("edge(0, 0, -1)", x.edge(0, 0, -1), NONE);
        due("edge of nobody", of("thing t;makes 1 with t;").edge(0, 0, 0), NONE);
        due("edge of a chase", of(CHASE).edge(0, 0, 0), NONE);
        due("reached(0) behind it", x.reached(0), 12);
        due("worth behind it", x.worth(1, 1, 1), 5);
        due("good behind it", x.good(6), 14);
        // a's 40*m/10 against b's 99: more than that by 30 only (120 to 99), as 29 makes 116.
        WhoseKiln y = of("person a costs 50;person b costs 60;thing t;makes a*40 with a t;makes b*99 with b t;");
        due("edge(0, 0, 0)", y.edge(0, 0, 0), 23);
        due("edge(0, 0, 1)", y.edge(0, 0, 1), NONE);
        due("edge(1, 0, 1)", y.edge(1, 0, 1), 6);
        // m 40 is in, and m 0.
        String last = "person b costs 9;thing t;makes a*10 with a t;makes b*10 with b t;";
        due("edge(0, 0, 0) at 40", of("person a costs 39;" + last).edge(0, 0, 0), 40);
        due("edge(0, 0, 0) beyond 40", of("person a costs 40;" + last).edge(0, 0, 0), NONE);
        // c asks: a and b take pains for what they own alone.
        WhoseKiln least = of("person a costs 0;person b costs 5;person c costs 1;thing t;makes 10*a with a t;makes 6*b with b t;");
        least.bargain(2, 2);
        due("edge(0, 0, 1) at 0", least.edge(0, 0, 1), 0);
        // 6*27/10 less 5 is the first that is more than 10.
        due("edge(1, 0, 0) of another line", least.edge(1, 0, 0), 27);
        testEdgeWithoutEnd();
    }

    static void testEdgeWithoutEnd() {
        // b stands still if what is lost by stepping outweighs 10 - 1: all of it as the owner, else half of it.
        WhoseKiln x = of(CHASE + "makes 15*(1-b) with b k;");
        due("edge(2, 0, 0)", x.edge(2, 0, 0), 12);
        due("edge(2, 0, 1), nobody reaches anything", x.edge(2, 0, 1), NONE);
        due("edge(1, 0, 1)", x.edge(1, 0, 1), 8);
        due("edge(1, 0, 0), nobody reaches anything", x.edge(1, 0, 0), NONE);
        // -16*11/10 is cut to -17, and half of that is less than 9.
        due("edge(2, 0, 0) cut towards 0", of(CHASE + "makes 0-16*b with b k;").edge(2, 0, 0), 12);
        // From 17 to 19 nobody reaches anything; from 20 on a second step ends it, whoever owns.
        WhoseKiln y = of("person a costs 1;person b costs 1 40;thing k;makes 10*(a=b) with a;"
            + "makes 10*(1-(a=b))*(b<2)+30*(b=2) with b;makes 15*(b=0) with b k;");
        due("edge(1, 0, 0) passes over", y.edge(1, 0, 0), 20);
    }

    static void testMark() {
        about(35);
        WhoseKiln x = new WhoseKiln();
        due("mark(0, true) on nothing", x.mark(0, true), false);
        due("mark(4, false)", x.mark(4, false), false);
        due("mark(4, true)", x.mark(4, true), false);
        due("mark(-1, false)", x.mark(-1, false), false);
        due("mark(3, false)", x.mark(3, false), true);
        works(x, KILN);
        x.own(0, 1, 1);
        x.later(0, 2, 1);
        x.chance(5);
        x.bargain(2, 0);
        due("mark(0, false)", x.mark(0, false), true);
        long share = x.share(0, 5, 0);
        due("share(0, 5, 0) asked", share, 18);
        due("share(0, 5, 1) asked", x.share(0, 5, 1), 1);
        x.own(0, 2, 1);
        x.later(0, 0, 1);
        x.chance(1);
        x.bargain(1, 1);
        feed(x, "thing");
        due("mark(0, true)", x.mark(0, true), true);
        due("count(5), the tape is no part of it", x.count(5), 5);
        due("owner(0, 0) of the mark", x.owner(0, 0), 1);
        due("share(0, 5, 0) of the mark", x.share(0, 5, 0), share);
        due("works of the rest", works(x, " t;"), 0);
        due("count(0)", x.count(0), 0);
        due("mark(0, true) behind new works", x.mark(0, true), true);
        due("count(2) of the mark", x.count(2), 3);
        due("worth of the mark", x.worth(3, 1, 5), 21);
        due("share(0, 5, 0) of the mark again", x.share(0, 5, 0), share);
        x.own(0, 3, 2);
        due("mark(0, true) once more", x.mark(0, true), true);
        due("owner(0, 1), a mark does not change", x.owner(0, 1), 1);
        due("mark(3, true)", x.mark(3, true), true);
        due("count(0) of the empty mark", x.count(0), 0);
        due("mark(1, true) on nothing", x.mark(1, true), false);
        due("mark(2, true) on nothing", x.mark(2, true), false);
    }

    static void testCount() {
        about(36);
        WhoseKiln x = of("person a costs 1 2;person b costs 1 2 3;thing t;thing u;thing v;makes 1 with a;makes 1 with t;");
        int[] want = {2, 3, 2, 64, 12, 0};
        for (int what = 0; what <= 5; what++) {
            due("count(" + what + ")", x.count(what), want[what]);
        }
        due("count(6)", x.count(6), NONE);
        due("count(-1)", x.count(-1), NONE);
        due("count(MIN)", x.count(MIN), NONE);
        feed(x, "abc");
        due("count(5)", x.count(5), 3);
        WhoseKiln four = of("person a costs 1 2 3;person b costs 1 2 3;person c costs 1 2 3;person d costs 1 2 3;thing t;thing u;thing v;");
        due("count(3) at most", four.count(3), 216);
        due("count(4) at most", four.count(4), 256);
        due("count(3) without things", of("person a costs 1;").count(3), 1);
        due("count(3) of nobody", of("thing t;thing u;").count(3), 0);
        due("count(4) of nobody", of("thing t;thing u;").count(4), 0);
    }

    /** Numbers far from all that there is, in each place of each call. */
    static void testWrongEverywhere() {
        WhoseKiln x = of(KILN);
        for (int bad : new int[] {MIN, MIN + 1, -256, -1, 1 << 16, 1 << 30, MAX}) {
            about(4);
            due("cost", x.cost(bad, 0), NONE);
            due("cost", x.cost(0, bad), NONE);
            about(6);
            due("own", x.own(bad, 1, 1) || x.own(0, bad, 1) || x.own(0, 1, bad), false);
            about(8);
            due("later", x.later(bad, 1, 1) || x.later(0, bad, 1) || x.later(0, 1, bad), false);
            about(9);
            due("chance", x.chance(bad), false);
            about(10);
            due("has", x.has(bad), NONE);
            about(12);
            due("bargain", x.bargain(bad, 0) || x.bargain(0, bad), false);
            about(13);
            fails("share", () -> x.share(bad, 0, 0));
            fails("share", () -> x.share(0, bad, 0));
            fails("share", () -> x.share(0, 0, bad));
            about(17);
            due("rests", x.rests(bad), NONE);
            about(21);
            fails("reached", () -> x.reached(bad));
            about(25);
            due("apart", x.apart(bad, 0), NONE);
            due("apart", x.apart(0, bad), NONE);
            about(27);
            fails("written", () -> x.written(bad, 0));
            fails("written", () -> x.written(0, bad));
            about(34);
            due("edge", x.edge(bad, 0, 0), NONE);
            due("edge", x.edge(0, bad, 0), NONE);
            due("edge", x.edge(0, 0, bad), NONE);
            about(35);
            due("mark", x.mark(bad, true) || x.mark(bad, false), false);
            about(36);
            due("count", x.count(bad), NONE);
        }
    }
}
