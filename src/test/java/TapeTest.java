/** Each sentence of Terms 1 and of promises 1 to 5 that names a boundary case. */
public final class TapeTest extends Due {
    static final String[] KEYWORDS = {"person", "costs", "thing", "makes", "with", "not", "and", "or"};

    public static void main(String[] args) {
        testNewObject();
        testSignsOfTheTape();
        testLengthOfTheTape();
        testOrderOfBytes();
        testTapeIsTaken();
        testLongTokens();
        testBlanks();
        testWords();
        testNumbers();
        testSigns();
        testHowMany();
        testNumberedAsTold();
        testCosts();
        testNamesBehindWith();
        testNames();
        testShapeOfE();
        testWithin();
        testTruth();
        testWrap();
        testFirstFault();
        testLeastFault();
        testPlaceOfFault();
        testEachKind();
        testFaultLeavesAll();
        testWorksForgetAll();
        testPainsNumber();
        testWorthIsOfTheNames();
        testWorthIsCut();
        end("the sentences of Terms 1 hold");
    }

    static WhoseKiln withE(String e) {
        return of("person a costs 0 0 0;makes " + e + " with a;");
    }

    static void value(String e, int want) {
        due(e, withE(e).worth(1, 0, 0), want);
    }

    static String times(String part, int n) {
        return part.repeat(n);
    }

    static void testNewObject() {
        about("No WORKS: nobody, nothing");
        WhoseKiln x = new WhoseKiln();
        for (int what = 0; what <= 5; what++) {
            due("count(" + what + ")", x.count(what), 0);
        }
        due("cost(0, 0)", x.cost(0, 0), NONE);
        due("own(0, 0, 1)", x.own(0, 0, 1), false);
        due("later(0, 0, 1)", x.later(0, 0, 1), false);
        due("owner(0, 0)", x.owner(0, 0), NONE);
        due("owner(0, 1)", x.owner(0, 1), NONE);
        due("bargain(0, 0)", x.bargain(0, 0), false);
        due("chance(0)", x.chance(0), true);
        due("has(0)", x.has(0), 0);
        due("has(1)", x.has(1), NONE);
        due("worth(0, 0, 0)", x.worth(0, 0, 0), 0);
        fails("worth(1, 0, 0)", () -> x.worth(1, 0, 0));
        fails("worth(0, 1, 0)", () -> x.worth(0, 1, 0));
        fails("worth(0, 0, 1)", () -> x.worth(0, 0, 1));
        due("makes(0, 0)", x.makes(0, 0), 0);
        fails("makes(1, 0)", () -> x.makes(1, 0));
        fails("share(0, 0, 0)", () -> x.share(0, 0, 0));
        due("would(0, 0)", x.would(0, 0), NONE);
        due("isRest(0)", x.isRest(0), NONE);
        fails("rest(0)", () -> x.rest(0));
        due("rests(0)", x.rests(0), NONE);
        fails("good(0)", () -> x.good(0));
        fails("best(0)", () -> x.best(0));
        due("lost(0)", x.lost(0), NONE);
        fails("reached(0)", () -> x.reached(0));
        due("first(2)", x.first(2), NONE);
        due("gap()", x.gap(), NONE);
        due("joint(0)", x.joint(0), NONE);
        due("apart(0, 1)", x.apart(0, 1), NONE);
        fails("oneHand(0, 1)", () -> x.oneHand(0, 1));
        fails("written(0, 0)", () -> x.written(0, 0));
        fails("writing(0, 0)", () -> x.writing(0, 0));
        fails("right(0, 0, 0, 0)", () -> x.right(0, 0, 0, 0));
        fails("rightPrice(0, 0, 0, 0)", () -> x.rightPrice(0, 0, 0, 0));
        fails("lender(0, 0, 0, 0)", () -> x.lender(0, 0, 0, 0));
        due("hands()", x.hands(), NONE);
        fails("leaving(0, 0)", () -> x.leaving(0, 0));
        due("edge(0, 0, 0)", x.edge(0, 0, 0), NONE);
        for (int mark = 0; mark <= 3; mark++) {
            due("mark(" + mark + ", true)", x.mark(mark, true), false);
        }
    }

    static void testSignsOfTheTape() {
        about("signs, 10 and 32 .. 126; others are left out");
        int there = 0;
        WhoseKiln x = new WhoseKiln();
        for (long b = 0; b < 256; b++) {
            there += b == 10 || b >= 32 && b <= 126 ? 1 : 0;
            due("feed of the byte " + b, x.feed(0, b << 8 * (b % 8), 0), there);
        }
        // A byte that is left out parts nothing: the tape is "thing x;".
        WhoseKiln y = new WhoseKiln();
        y.feed(0x74686909806E6720L, 0x1F7F7800FF0D3B00L, 0);
        due("count(5)", y.count(5), 8);
        due("works()", y.works(), 0);
        due("count(1)", y.count(1), 1);
    }

    static void testLengthOfTheTape() {
        about("The TAPE has at most 1,000 signs; what is beyond 1,000 is left out");
        WhoseKiln x = new WhoseKiln();
        for (int i = 1; i <= 333; i++) {
            due("feed " + i, x.feed(' ', '\n', ' '), 3 * i);
        }
        due("feed of zeros", x.feed(0, 0, 0), 999);
        due("feed of four", x.feed(' ', 0, 0x20202000000000L), 1000);
        due("feed beyond", x.feed('x', 'x', 'x'), 1000);
        due("feed of others beyond", x.feed(0, -1L, 9), 1000);
        due("works(), what was beyond is not read", x.works(), 0);
        sound(times(" ", 992) + "thing x;");
        fault(times(" ", 993) + "thing x;", 1, 1000);
        // What is beyond would be wrong, and is not there.
        sound(times(" ", 992) + "thing x;;;;");
        due("count(1)", of(times("\n", 992) + "thing x;thing y;").count(1), 1);
        fault(times(" ", 999) + ";", 1, 999);
    }

    static void testOrderOfBytes() {
        about("the bytes of a, b, c, of each the highest first");
        WhoseKiln x = new WhoseKiln();
        due("feed of person a costs 1 2;", x.feed(0x706572736F6E2061L, 0x20636F7374732031L, 0x20323B0000000000L), 19);
        due("works()", x.works(), 0);
        due("cost(0, 1)", x.cost(0, 1), 1);
        due("cost(0, 2)", x.cost(0, 2), 2);
        due("feed of 24", x.feed(0x2020202020202020L, 0x2020202020202020L, 0x2020202020202020L), 24);
        due("a feed behind", x.feed(0x7468696E67L, 0x20L, 0x61L << 32), 31);
        due("one more behind", x.feed(0, 0, 0x3BL << 56), 32);
        due("works()", x.works(), 0);
        due("count(1)", x.count(1), 1);
    }

    static void testTapeIsTaken() {
        about("what reads it takes it: it is empty then");
        WhoseKiln x = new WhoseKiln();
        feed(x, "thing x;");
        due("count(5)", x.count(5), 8);
        due("works()", x.works(), 0);
        due("count(5) behind it", x.count(5), 0);
        feed(x, "thing x;!");
        due("works()", x.works(), 1 + 16 * 8);
        due("count(5) behind a fault", x.count(5), 0);
        due("feed", feed(x, "thing y;"), 8);
        due("works() of what came behind the fault alone", x.works(), 0);
        due("count(1)", x.count(1), 1);
        due("works() of nothing", x.works(), 0);
        due("count(1) of nothing", x.count(1), 0);
    }

    static void testLongTokens() {
        about("TOKENS, each as long as can be");
        fault("thingx y;", 1, 0);
        fault("thing xthing y;", 1, 13);
        fault("person a costsb 1;", 1, 9);
        // Two numbers are two only with a blank between.
        due("cost(0, 1)", of("person a costs 12;").cost(0, 1), 12);
        due("cost(0, 2)", of("person a costs 12;").cost(0, 2), NONE);
        due("cost(0, 2)", of("person a costs 1 2;").cost(0, 2), 2);
        fault("person a costs 1;makes anot 1 with a;", 2, 23);
        fault("person a costs 1;makes nota with a;", 2, 23);
        fault("person a costs 1;makes notnot 1 with a;", 2, 23);
    }

    static void testBlanks() {
        about("blanks (10, 32) between where one likes");
        sound("");
        sound("\n \n");
        sound("person a costs 1;thing b;makes 1+a*(2)<3 with a b;");
        sound(" person \n a\n\ncosts  1 \n2 ; thing\nb\n;\nmakes\n1 + a * ( 2 ) < 3\nwith\na\nb\n;\n");
        sound("person a costs 1;makes(1)with a;");
        sound("person a costs 1;makes not(1)with a;");
        sound("person a costs 1;makes 1and 2or 3with a;");
        fault("th ing a;", 1, 0);
        fault("thing\ta;", 1, 0);
        fault("person a costs 1 000;", 0, 0);
        fault("person a costs 1 0 0 0;", 1, 21);
    }

    static void testWords() {
        about("WORDS (letters a .. z, 8 at most); a longer WORD, at its first sign, is none");
        sound("thing abcdefgh;");
        fault("thing abcdefghi;", 1, 6);
        fault("thing abcdefghijklmnop;", 1, 6);
        fault("thing kilnkilnkiln;thing kilnkilnkiln;", 1, 6);
        fault("personperson a costs 1;", 1, 0);
        fault("aaaperson a costs 1;", 1, 0);
        fault("person a costs 1;makes aaaaaaaab with a;", 1, 23);
        fault("person a costs 1;makes 1 with aaaaaaaab;", 1, 30);
        sound("thing personal;thing maker;thing withs;");
        for (char c = 'a'; c <= 'z'; c++) {
            sound("thing " + c + ";");
            fault("thing " + Character.toUpperCase(c) + ";", 1, 6);
        }
        fault("thing aB;", 1, 7);
        fault("thing abcdefghI;", 1, 14);
        fault("THING a;", 1, 0);
        // A digit parts a word as a sign does.
        fault("thing a1;", 1, 7);
        sound("person a costs1;");
    }

    static void testNumbers() {
        about("NUMBERS (1 to 4 digits; a letter may stand right behind); a longer NUMBER, at its first sign, is none");
        value("9999", 9999);
        value("0000", 0);
        value("0012", 12);
        value("1234", 1234);
        value("5678*10+9", 56789);
        fault("person a costs 1;makes 10000 with a;", 1, 23);
        fault("person a costs 1;makes 00000 with a;", 1, 23);
        fault("person a costs 1;makes 123456789 with a;", 1, 23);
        fault("person a costs 00001;", 1, 15);
        sound("person a costs 1;makes 5with a;");
        sound("person a costs 1;makes 9999with a;");
        fault("person a costs 1;makes 5a with a;", 1, 24);
        fault("person a costs 1;makes 99999with a;", 1, 23);
        fault("thing 1a;", 1, 6);
    }

    static void testSigns() {
        about("the signs ( ) < = + - * ;  All else is none");
        for (char c = 33; c <= 126; c++) {
            if (c >= 'a' && c <= 'z' || c >= '0' && c <= '9') {
                continue;
            }
            fault("thing a;" + c, 1, 8);
            fault("thing " + c + ";", 1, 6);
            fault("thing a" + c + c + ";", 1, c == ';' ? 8 : 7);
            boolean joins = "<=+-*".indexOf(c) >= 0;
            fault("thing a;makes 7" + c + "8 with a;", joins ? 0 : 1, joins ? 0 : 15);
            fault("thing a;makes " + c + " with a;", 1, c == '(' ? 16 : 14);
        }
    }

    static void testHowMany() {
        about("PEOPLE, 4 at most, and THINGS, 3 at most; lines with makes, 8 at most");
        String[] people = {"person a costs 1;", "person b costs 1;", "person c costs 1;", "person d costs 1;"};
        String[] things = {"thing t;", "thing u;", "thing v;"};
        String text = "";
        for (int i = 0; i < 4; i++) {
            text += people[i];
            due("count(0)", of(text).count(0), i + 1);
        }
        fault(text + "person e costs 1;", 5, 68);
        fault(text + "thing t;person e costs 1;", 5, 76);
        fault(text + "person", 5, 68);
        fault(text + "person person", 5, 68);
        text = "";
        for (int i = 0; i < 3; i++) {
            text += things[i];
            due("count(1)", of(text).count(1), i + 1);
        }
        fault(text + "thing w;", 5, 24);
        fault(text + "person a costs 1;thing w;", 5, 41);
        fault(text + "thing t;", 5, 24);
        text = "person a costs 1;";
        for (int i = 0; i < 8; i++) {
            due("count(2)", of(text).count(2), i);
            text += "makes " + (1 << i) + " with a;";
        }
        WhoseKiln eight = of(text);
        due("count(2)", eight.count(2), 8);
        due("worth of eight lines", eight.worth(1, 0, 0), 255);
        fault(text + "makes 1 with a;", 5, text.length());
        fault(text + " makes", 5, text.length() + 1);
        due("worth of the eighth line alone", of("person b costs 1;thing t;" + times("makes 5 with t;", 7) + "makes 3 with b;").worth(1, 0, 0), 3);
        // What one work has does not count for the next one.
        WhoseKiln x = of("person a costs 1;person b costs 1;person c costs 1;person d costs 1;thing t;thing u;thing v;");
        due("works once more", works(x, "thing a;thing b;thing c;person t costs 1;"), 0);
    }

    static void testNumberedAsTold() {
        about("PEOPLE and THINGS, numbered as told");
        WhoseKiln x = of("thing z;person y costs 7;thing m;person b costs 8;person a costs 9;thing k;"
            + "makes 1 with z;makes 10 with m;makes 100 with k;makes 1000*a with b;");
        for (int p = 0; p < 3; p++) {
            due("cost(" + p + ", 1)", x.cost(p, 1), 7 + p);
        }
        due("worth with the first thing", x.worth(0, 1, 0), 1);
        due("worth with the second thing", x.worth(0, 2, 0), 10);
        due("worth with the third thing", x.worth(0, 4, 0), 100);
        due("worth of the second person by the third one's pains", x.worth(2, 0, 16), 1000);
        due("worth of the second person by their own pains", x.worth(2, 0, 4), 0);
        due("worth of the third person", x.worth(4, 0, 16), 0);
        due("worth of the first person", x.worth(1, 0, 16), 0);
    }

    static void testCosts() {
        about("a person has 1 to 3 costs (0 to 999 each), of the STEPS 1, 2, 3; STEP 0 costs nothing");
        fault("person a costs;", 1, 14);
        fault("person a costs", 1, 14);
        for (int n = 1; n <= 3; n++) {
            WhoseKiln x = of("person a costs" + " 0 999 5".substring(0, new int[] {2, 6, 8}[n - 1]) + ";");
            int[] costs = {0, 0, 999, 5};
            for (int step = 0; step <= 4; step++) {
                due(n + " costs, cost(0, " + step + ")", x.cost(0, step), step <= n ? costs[step] : NONE);
            }
        }
        fault("person a costs 1 2 3 4;", 1, 21);
        fault("person a costs 1 2 3 person", 1, 21);
        for (String ahead : new String[] {"", "1 ", "1 2 "}) {
            sound("person a costs " + ahead + "999;");
            fault("person a costs " + ahead + "1000;", 4, 15 + ahead.length());
            fault("person a costs " + ahead + "9999;", 4, 15 + ahead.length());
            fault("person a costs " + ahead + "-1;", 1, 15 + ahead.length());
            fault("person a costs " + ahead + "b;", 1, 15 + ahead.length());
        }
        // Of four people each has their own.
        WhoseKiln four = of("person a costs 1;person b costs 2 3;person c costs 4 5 6;person d costs 7 8 9;");
        int[][] costs = {{0, 1, NONE, NONE}, {0, 2, 3, NONE}, {0, 4, 5, 6}, {0, 7, 8, 9}};
        for (int p = 0; p < 4; p++) {
            for (int step = 0; step < 4; step++) {
                due("cost(" + p + ", " + step + ")", four.cost(p, step), costs[p][step]);
            }
            due("cost(" + p + ", 4)", four.cost(p, 4), NONE);
            due("cost(" + p + ", -1)", four.cost(p, -1), NONE);
        }
    }

    static void testNamesBehindWith() {
        about("1 or more NAMES of PEOPLE and THINGS told ahead, each once");
        String all = "person a costs 1;person b costs 1;person c costs 1;person d costs 1;thing t;thing u;thing v;";
        int end = all.length();
        fault(all + "makes 1 with;", 1, end + 12);
        fault(all + "makes 1 with", 1, end + 12);
        WhoseKiln seven = of(all + "makes 1 with v d b t a u c;");
        due("worth of all seven", seven.worth(15, 7, 0), 1);
        for (int i = 0; i < 4; i++) {
            due("worth without a person", seven.worth(15 - (1 << i), 7, 0), 0);
        }
        for (int i = 0; i < 3; i++) {
            due("worth without a thing", seven.worth(15, 7 - (1 << i), 0), 0);
        }
        for (String name : new String[] {"a", "d", "t", "v"}) {
            sound(all + "makes 1 with " + name + ";");
            fault(all + "makes 1 with " + name + " " + name + ";", 3, end + 15);
            fault(all + "makes 1 with " + name + " b " + name + ";", 3, end + 17);
        }
        fault(all + "makes 1 with v d b t a u c a;", 3, end + 27);
        fault("person a costs 1;makes 1 with a b;person b costs 1;", 2, 32);
        fault("person a costs 1;makes 1 with b;thing b;", 2, 30);
        fault("makes 1 with a;person a costs 1;", 2, 13);
        // In another line the same name may stand again.
        sound(all + "makes 1 with a;makes 1 with a;");
    }

    static void testNames() {
        about("A NAME is another WORD than person, costs, thing, makes, with, not, and, or; no two are alike");
        for (String word : KEYWORDS) {
            fault("thing " + word + ";", 1, 6);
            fault("person " + word + " costs 1;", 1, 7);
            fault("person a costs 1;makes 1 with " + word + ";", 1, 30);
            fault("person a costs 1;makes 1 with a " + word + ";", 1, 32);
            if (!word.equals("not")) {
                fault("person a costs 1;makes " + word + " with a;", 1, 23);
            }
            sound("thing " + word + "x;");
            sound("thing x" + word + ";");
            sound("thing " + word.substring(1) + ";");
        }
        fault("thing a;thing a;", 3, 14);
        fault("thing a;thing b;thing a;", 3, 22);
        fault("thing a;thing b;thing b;", 3, 22);
        fault("thing a;person a costs 1;", 3, 15);
        fault("person a costs 1;thing a;", 3, 23);
        fault("person a costs 1;person b costs 1;person a costs 1;", 3, 41);
        sound("thing a;thing aa;thing aaa;");
        sound("thing abcdefgh;thing bbcdefgh;thing abcdefgi;");
        fault("thing abcdefgh;thing abcdefg;thing abcdefgh;", 3, 35);
        sound("person abcdefgh costs 1;person bbcdefgh costs 1;thing cbcdefgh;person abcdefgi costs 1;");
        due("worth of another name", of("person abcdefgh costs 1;person bbcdefgh costs 1;makes bbcdefgh with abcdefgh;").worth(1, 0, 4), 1);
        String two = "person x costs 1;person y costs 1;thing t;thing u;";
        for (String name : new String[] {"x", "y", "t", "u"}) {
            fault(two + "thing " + name + ";", 3, two.length() + 6);
            fault(two + "person " + name + " costs 1;", 3, two.length() + 7);
        }
        // Names of works ahead are free again.
        WhoseKiln x = of("thing a;person b costs 1;");
        due("works with the same names", works(x, "person a costs 1;thing b;"), 0);
        due("works of an untold name", works(x, "person c costs 1;makes a with c;"), 2 + 16 * 23);
    }

    static void testShapeOfE() {
        about("TEST { and TEST or or TEST }, from the left");
        value("1 or 1 and 0", 0);
        value("0 and 1 or 1", 1);
        value("1 or 0 or 0 and 0", 0);
        value("(1 or (1 and 0))", 1);
        value("1 and (0 or 1)", 1);
        value("(0 and 1)+5", 5);
        about("TEST: SUM, or SUM < SUM, or SUM = SUM");
        value("1+1<3", 1);
        value("3<1+1", 0);
        value("2=1+1", 1);
        value("1<2 and 2<1 or 3=3", 1);
        value("(1<2)=1", 1);
        value("5-(2<3)", 4);
        for (String two : new String[] {"1<2<3", "1<2=3", "1=2<3", "1=2=3"}) {
            fault("person a costs 1;makes " + two + " with a;", 1, 26);
        }
        about("SUM: PRODUCT { + or - PRODUCT }; PRODUCT: PART { * PART }");
        value("20-5-3", 12);
        value("20-5+3", 18);
        value("20-(5+3)", 12);
        value("2+3*4-5*2", 4);
        value("2*3*4", 24);
        value("(2+3)*(4-5)", -5);
        about("PART: a NUMBER, the NAME of a person told ahead, not PART, ( E )");
        value("not 0*5", 5);
        value("not not 7", 1);
        value("not not not 7", 0);
        value("not (0 and 1)", 1);
        value("not(1<2)+3", 3);
        value("2*not 0", 2);
        for (int step = 0; step <= 3; step++) {
            due("a by " + step, withE("a*100+a").worth(1, 0, step), step * 101);
        }
        fault("person a costs 1;makes b with a;person b costs 1;", 2, 23);
        fault("person a costs 1;makes -1 with a;", 1, 23);
        fault("person a costs 1;makes 1 2 with a;", 1, 25);
        fault("person a costs 1;makes 1(2) with a;", 1, 24);
        fault("person a costs 1;makes 1 not 2 with a;", 1, 25);
        fault("person a costs 1;makes () with a;", 1, 24);
        fault("person a costs 1;makes not with a;", 1, 27);
        fault("person a costs 1;makes (1 with a;", 1, 26);
        fault("person a costs 1;makes 1) with a;", 1, 24);
        for (String joint : new String[] {"+", "-", "*", "<", "=", " and", " or"}) {
            fault("person a costs 1;makes 1" + joint + " with a;", 1, 25 + joint.length());
            fault("person a costs 1;makes 1" + joint + ";", 1, 24 + joint.length());
            fault("person a costs 1;makes 1" + joint, 1, 24 + joint.length());
            fault("person a costs 1;makes (1" + joint + ") with a;", 1, 25 + joint.length());
        }
    }

    static void testWithin() {
        about("no PART lies within 5 of not and ( )");
        for (int nots = 0; nots <= 6; nots++) {
            for (int opened = 0; opened <= 6; opened++) {
                String e = times("not ", nots) + times("(", opened) + "7" + times(")", opened);
                String text = "person a costs 1;makes " + e + " with a;";
                int fifth = 23 + 4 * Math.min(5, nots) + Math.max(0, 5 - nots);
                boolean holds = nots + opened <= 4;
                fault(text, holds ? 0 : 5, holds ? 0 : fifth);
                if (holds) {
                    due("worth of " + e, of(text).worth(1, 0, 0), nots == 0 ? 7 : nots % 2 == 0 ? 1 : 0);
                }
            }
        }
        fault("person a costs 1;makes not(not(not(not(a)))) with a;", 5, 34);
        fault("person a costs 1;makes not(not(a*2+1)) with a;", 0, 0);
        // What is closed lies about nothing any more.
        value("((((1))))+((((2))))*not not not not 3", 3);
        value("(((1+(2)*(3))-(4))+(5))*(6)", 48);
        value("((((1)+(2))))", 3);
        fault("person a costs 1;makes ((((1)+((2))))) with a;", 5, 32);
    }

    static void testTruth() {
        about("Of not, and, or, < and = comes 1 or 0; what is not 0 is so");
        value("not 5", 0);
        value("not (0-1)", 0);
        value("not 0", 1);
        value("5 and 7", 1);
        value("(0-1) and (0-2)", 1);
        value("2 and 1", 1);
        value("4 and 0", 0);
        value("0 and 4", 0);
        value("0 and 0", 0);
        value("0 or (0-3)", 1);
        value("(0-3) or 0", 1);
        value("6 or 9", 1);
        value("0 or 0", 0);
        value("7<7", 0);
        value("6<7", 1);
        value("8<7", 0);
        value("0-1<0", 1);
        value("0<0-1", 0);
        value("7=7", 1);
        value("7=8", 0);
        value("8=7", 0);
        value("0=0", 1);
        value("3=0-3", 0);
    }

    static void testWrap() {
        about("ints wrap");
        value("4096*4096*256", 0);
        value("4096*4096*256+5", 5);
        value("4096*4096*127+4096*4096", -99999);
        value("4096*4096*128<0", 1);
        value("4096*4096*128-1<0", 0);
        value("not (4096*4096*256)", 1);
        value("4096*4096*256 or 0", 0);
        value("4096*4096*256 and 1", 0);
        value("4096*4096*256=0", 1);
        value("0-4096*4096*128=4096*4096*128", 1);
        value("(4096*4096*128)*2", 0);
        value("4096*4096*64<4096*4096*128", 0);
        value("(4096*4096*128-1)*(4096*4096*128-1)", 1);
        about("as an int each, the sum as it is");
        String most = "makes 4096*4096*128-1 with a;";
        String least = "makes 4096*4096*128 with a;";
        String head = "person a costs 1;";
        due("most twice", of(head + most + most).worth(1, 0, 0), 99999);
        due("least twice", of(head + least + least).worth(1, 0, 0), -99999);
        due("most eight times", of(head + times(most, 8)).worth(1, 0, 0), 99999);
        due("least eight times", of(head + times(least, 8)).worth(1, 0, 0), -99999);
        due("most and least", of(head + most + least).worth(1, 0, 0), -1);
        due("most, least and two", of(head + most + most + least + least + "makes 9 with a;").worth(1, 0, 0), 7);
    }

    static void testFirstFault() {
        about("of the first token from the left that is wrong");
        fault("thing a;makes 1+ with b;", 1, 17);
        fault("thing a;makes 1+;with b;", 1, 16);
        fault("thing a;makes not with b;", 1, 18);
        fault("thing a;makes (1+ with b;", 1, 18);
        fault("thing a;makes (2 2) with b;", 1, 17);
        fault("thing a;makes b with b;", 2, 14);
        fault("thing a;makes b+b with a a;", 2, 14);
        fault("thing a;makes 1 with a a b;", 3, 23);
        fault("thing a;makes 1 with b a a;", 2, 21);
        fault("thing a;thing a;thing with;", 3, 14);
        fault("person a costs 1000 1000 x;", 4, 15);
        fault("person a costs 1 x 1000;", 1, 17);
        fault("thing with;thing a;thing a;", 1, 6);
        fault("thing a;thing b;thing c;thing a;person with", 5, 24);
        fault("person a costs 1000;thing a;", 4, 15);
        fault("thing !;thing ?;", 1, 6);
        fault("person a costs 1;makes (((((1))))) with b;", 5, 28);
        fault("person a costs 1;makes b+(((((1))))) with b;", 2, 23);
    }

    static void testLeastFault() {
        about("that is wrong the least");
        String five = "person a costs 1;thing t;makes (((((";
        // Too deep, too: an untold name, a thing, what can't stand there, what is none.
        fault(five + "1", 5, 36);
        fault(five + "a", 5, 36);
        fault(five + "(", 5, 36);
        fault(five + "not", 5, 36);
        fault(five + "b", 2, 36);
        fault(five + "t", 2, 36);
        fault(five + "with", 1, 36);
        fault(five + ")", 1, 36);
        fault(five + "12345", 1, 36);
        fault(five + "abcdefghi", 1, 36);
        fault(five + "!", 1, 36);
        fault(five, 1, 36);
        // A number too large where none can stand; a name where none can stand.
        fault("person a costs 1 2 3 1000;", 1, 21);
        fault("person 1000 costs 1;", 1, 7);
        fault("person a costs 10000;", 1, 15);
        fault("thing a;makes 1 b with a;", 1, 16);
        fault("thing a;makes 1 a with a;", 1, 16);
        fault("thing a;makes 1 with a 5;", 1, 23);
        fault("thing a thing b;thing c;thing d;thing e;", 1, 8);
        fault("thing a;thing b a;", 1, 16);
        fault("person a costs a;", 1, 15);
        fault("person a a 1;", 1, 9);
    }

    static void testPlaceOfFault() {
        about("the place (from 0) of a token, the end being one at the text's length");
        fault("!", 1, 0);
        fault("  !", 1, 2);
        fault("thing", 1, 5);
        fault("thing  \n", 1, 8);
        fault("thing a", 1, 7);
        fault("thing a\n", 1, 8);
        fault("\n\nthing b;\n\nthing b;", 3, 18);
        String[] cut = {"person", "person a", "person a costs", "person a costs 1", "person a costs 1 2 3", "thing", "thing a",
            "person a costs 1;makes", "person a costs 1;makes 1", "person a costs 1;makes (", "person a costs 1;makes (1",
            "person a costs 1;makes not", "person a costs 1;makes 1 with", "person a costs 1;makes 1 with a"};
        for (String text : cut) {
            fault(text, 1, text.length());
            fault(text + " \n ", 1, text.length() + 3);
            String full = times(" ", 1000 - text.length()) + text;
            fault(full, 1, 1000);
        }
        // Signs that are left out have no place.
        WhoseKiln x = new WhoseKiln();
        x.feed(0x00FF097468696E67L, 0x8020000021000000L, 0);
        due("works of thing and a sign", x.works(), 1 + 16 * 6);
    }

    static void testEachKind() {
        about("1 it is none, or can't stand there");
        fault("a", 1, 0);
        fault("7", 1, 0);
        for (String word : KEYWORDS) {
            boolean begins = word.equals("person") || word.equals("thing") || word.equals("makes");
            fault(word, 1, begins ? word.length() : 0);
            fault("thing a " + word, 1, 8);
        }
        fault("person a costs 1,2;", 1, 16);
        fault("person a thing 1;", 1, 9);
        fault("makes 1 with", 1, 12);
        about("2 a NAME in E that is of no person told, behind with of nobody and nothing told");
        fault("thing t;makes t with t;", 2, 14);
        fault("makes x with t;", 2, 6);
        fault("person a costs 1;thing t;makes a*t with a t;", 2, 33);
        fault("person a costs 1;makes 1 with aa;", 2, 30);
        sound("person a costs 1;thing t;makes a with t;");
        about("3 a NAME that is told, behind person and thing; the same NAME again behind with");
        fault("person t costs 1;person t costs 1;", 3, 24);
        fault("person t costs 1;person t", 3, 24);
        fault("thing t;makes 1 with t t;", 3, 23);
        about("4 a NUMBER that is not as told (of costs)");
        fault("person a costs 1000", 4, 15);
        sound("person a costs 1;makes 1000 with a;");
        sound("person a costs 1;makes 9999 with a;");
        about("5 one too many: not, or a PART, within 5 others");
        fault("person a costs 1;makes not not not not not not", 5, 43);
        fault("person a costs 1;makes not not not not not (", 5, 43);
        fault("person a costs 1;makes 1+2*not not not not not 3", 5, 47);
    }

    static void testFaultLeavesAll() {
        about("its FAULT (all stays then)");
        WhoseKiln x = of(KILN);
        x.own(0, 1, 1);
        x.later(0, 2, 1);
        x.chance(5);
        x.bargain(2, 1);
        x.mark(0, false);
        String[] wrongs = {"!", "thing a;thing b;makes 1 with a b", "person x costs 1 2 3;person ann costs 9;makes 1 with x x;",
            "person x costs 1;makes ((((((1 with x;", "person x costs 1000;", times("thing x;", 2)};
        for (String text : wrongs) {
            due("a fault", works(x, text) != 0, true);
            due("count(0)", x.count(0), 2);
            due("count(1)", x.count(1), 1);
            due("count(2)", x.count(2), 3);
            due("count(4)", x.count(4), 6);
            due("cost(0, 1)", x.cost(0, 1), 3);
            due("cost(1, 1)", x.cost(1, 1), 4);
            due("owner(0, 0)", x.owner(0, 0), 1);
            due("worth(3, 1, 5)", x.worth(3, 1, 5), 21);
            // Of one's own at 5 of ten: bob alone makes 0 or 6, ann the 21 less that or less nothing.
            share(x, 0, 5, 5, 2);
            share(x, 1, 5, 37, 2);
            due("reached(0)", x.reached(0), 12);
        }
        due("mark(0, true)", x.mark(0, true), true);
        due("owner(0, 0)", x.owner(0, 0), 1);
    }

    static void testWorksForgetAll() {
        about("Without a FAULT these are the WORKS from then on; all that was told of those ahead is gone but MARKS");
        for (String text : new String[] {KILN, KILN + " "}) {
            WhoseKiln x = of(KILN);
            x.own(0, 3, 2);
            x.later(0, 2, 1);
            x.chance(10);
            x.bargain(2, 1);
            x.mark(2, false);
            share(x, 0, 5, 0, 1);
            due("works", works(x, text), 0);
            due("owner(0, 0)", x.owner(0, 0), 0);
            due("owner(0, 1)", x.owner(0, 1), 1);
            // In all orders, of the owning as it is: half of all for each.
            share(x, 0, 5, 21, 2);
            x.own(0, 1, 1);
            share(x, 0, 5, 13, 1);
            // Of what is later nothing is told, and there is no chance of it.
            x.later(0, 2, 1);
            share(x, 0, 5, 13, 1);
            works(x, text);
            x.own(0, 1, 1);
            x.chance(10);
            share(x, 0, 5, 13, 1);
            due("rest(0)", x.rest(0), 1);
            due("mark(2, true)", x.mark(2, true), true);
            due("owner(0, 0) of the mark", x.owner(0, 0), 3);
            due("owner(0, 1) of the mark", x.owner(0, 1), 2);
            share(x, 0, 5, 0, 1);
        }
        WhoseKiln y = of("person a costs 1 2 3;person b costs 4 5 6;thing t;thing u;makes 5 with a;makes 6 with t;");
        due("works of less", works(y, "person a costs 7;"), 0);
        due("count(0)", y.count(0), 1);
        due("count(1)", y.count(1), 0);
        due("count(2)", y.count(2), 0);
        due("cost(0, 2)", y.cost(0, 2), NONE);
        due("cost(1, 0)", y.cost(1, 0), NONE);
        due("owner(0, 0)", y.owner(0, 0), NONE);
        due("worth(1, 0, 0)", y.worth(1, 0, 0), 0);
        fails("worth(1, 1, 0)", () -> y.worth(1, 1, 0));
        due("first(1)", y.first(1), 1);
    }

    static void testPainsNumber() {
        about("PAINS as one number: the STEP of person p times 4 to the p, together");
        WhoseKiln x = of("person a costs 1 2 3;person b costs 1 2 3;person c costs 1 2 3;person d costs 1 2 3;"
            + "makes a+b*10+c*100+d*1000 with a;");
        for (int pains = 0; pains < 256; pains++) {
            int want = pains % 4 + pains / 4 % 4 * 10 + pains / 16 % 4 * 100 + pains / 64 * 1000;
            due("worth by " + pains, x.worth(1, 0, pains), want);
        }
        for (int bad : new int[] {-1, -2, -256, 256, 257, 512, 1 << 16, MIN, MIN + 255, MAX}) {
            fails("worth by " + bad, () -> x.worth(1, 0, bad));
            fails("makes by " + bad, () -> x.makes(1, bad));
            due("isRest by " + bad, x.isRest(bad), NONE);
        }
        about("of the PEOPLE told, no STEP above their costs");
        String[] texts = {"person a costs 1;", "person a costs 1 2 3;", "person a costs 1 2;person b costs 1;",
            "person a costs 1 2 3;person b costs 1 2 3;person c costs 1 2;", "person a costs 1;person b costs 1 2;person c costs 1 2 3;",
            "person a costs 1;person b costs 1;person c costs 1;person d costs 1;"};
        int[][] steps = {{1}, {3}, {2, 1}, {3, 3, 2}, {1, 2, 3}, {1, 1, 1, 1}};
        for (int t = 0; t < texts.length; t++) {
            WhoseKiln y = of(texts[t]);
            for (int pains = -100; pains <= 300; pains++) {
                int number = pains;
                boolean told = pains >= 0 && pains < 1 << 2 * steps[t].length;
                for (int p = 0; told && p < steps[t].length; p++) {
                    told = (pains >> 2 * p & 3) <= steps[t][p];
                }
                if (told) {
                    due("worth by " + pains, y.worth(0, 0, pains), 0);
                } else {
                    fails("worth by " + pains + " with " + texts[t], () -> y.worth(0, 0, number));
                }
            }
        }
        WhoseKiln nobody = of("thing t;makes 3 with t;");
        due("worth of nobody", nobody.worth(0, 1, 0), 3);
        fails("worth of nobody by 1", () -> nobody.worth(0, 1, 1));
        fails("worth of nobody by -1", () -> nobody.worth(0, 1, -1));
    }

    static void testWorthIsOfTheNames() {
        about("WORTH: the sum of the E of all lines whose NAMES are among them");
        WhoseKiln x = of("person a costs 1;person b costs 1;thing t;thing u;makes 1 with a;makes 2 with b;makes 4 with t;"
            + "makes 8 with a b;makes 16 with a t;makes 32 with b u;makes 64 with t u;makes 128 with a b t u;");
        int[] people = {1, 2, 0, 3, 1, 2, 0, 3};
        int[] things = {0, 0, 1, 0, 1, 2, 3, 3};
        for (int p = 0; p < 4; p++) {
            for (int t = 0; t < 4; t++) {
                int want = 0;
                for (int i = 0; i < 8; i++) {
                    want += (people[i] & ~p) == 0 && (things[i] & ~t) == 0 ? 1 << i : 0;
                }
                due("worth(" + p + ", " + t + ", 0)", x.worth(p, t, 0), want);
            }
        }
        for (int bad : new int[] {-1, 4, 5, 1 << 16, MIN, MAX}) {
            fails("worth of " + bad, () -> x.worth(bad, 0, 0));
            fails("worth with " + bad, () -> x.worth(0, bad, 0));
        }
    }

    static void testWorthIsCut() {
        about("cut to -99999 .. 99999");
        String[] es = {"9999*10+8", "9999*10+9", "9999*10+10", "9999*10+11", "9999*9999"};
        int[] wants = {99998, 99999, 99999, 99999, 99999};
        for (int i = 0; i < es.length; i++) {
            value(es[i], wants[i]);
            value("0-(" + es[i] + ")", -wants[i]);
            WhoseKiln x = of("person a costs 1;person b costs 1;makes " + es[i] + " with a b;");
            due("makes", x.makes(3, 0), wants[i]);
            due("good", x.good(5), wants[i] - 2);
            WhoseKiln less = of("person a costs 1;person b costs 1;makes 0-(" + es[i] + ") with a b;");
            due("makes", less.makes(3, 0), -wants[i]);
            due("good, which is not cut", less.good(5), -wants[i] - 2);
            due("lost", less.lost(5), 2);
        }
        WhoseKiln y = of("person a costs 1;person b costs 1;makes 9999*10+9 with a;makes 1 with a b;makes 0-2 with b;");
        due("worth at the edge", y.worth(1, 0, 0), 99999);
        due("worth of all, the sum is cut, not what is summed", y.worth(3, 0, 0), 99998);
        due("worth, more than the edge and less again", of("person a costs 1;makes 9999*11 with a;makes 0-9999 with a;").worth(1, 0, 0), 99990);
    }
}
