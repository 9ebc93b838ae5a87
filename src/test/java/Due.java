import java.util.NoSuchElementException;

/** What the tests of single answers share: objects with works, and answers against those that are due. */
class Due {
    interface Call {
        long answer();
    }

    static final int NONE = WhoseKiln.NONE;
    static final int MIN = Integer.MIN_VALUE;
    static final int MAX = Integer.MAX_VALUE;

    // ann's steps bring 5 each and bob's 6 to those who have the kiln; the two of them make 10 without it.
    static final String KILN = "person ann costs 3 8;person bob costs 4;thing kiln;"
        + "makes ann*5 with ann kiln;makes bob*6 with bob kiln;makes 10 with ann bob;";
    // a wants to stand where b stands, b wants to stand elsewhere: turns come to no end.
    static final String CHASE = "person a costs 1;person b costs 1;thing k;makes 10*(a=b) with a;makes 10*(1-(a=b)) with b;";
    // Made by a search: by turns the first comes to rest in the 30th round, the second would in the 31st.
    static final String IN_THIRTY = roundsOf("694 6250 201 9923 192 7679", "565 3978 8420 3492 5929 3946",
        "8463 9778 4458 2512 7151 3514", "6314 5720 3128 478 6555 5676", "1375 853 2539 361 2131 6413",
        "7820 536 3770 4511 6957 6220", "7158 9047 979 775 8505 274", "7899 5250 6440 4272 4734 3091");
    static final String IN_THIRTY_ONE = roundsOf("8606 7378 4847 3742 5844 8274", "4903 795 364 3759 5564 7105",
        "2683 7812 7458 1463 376 848", "7700 3167 3771 3757 3417 1733", "3014 3845 4987 2627 9893 3487",
        "9145 1820 9438 5552 5141 9992", "8227 3704 6245 9058 4487 2810", "2584 8751 1259 1918 2039 5840");

    static int wrong;

    private static String about = "";

    static void about(String sentence) {
        about = sentence;
    }

    static void about(int promise) {
        about = "promise " + promise;
    }

    static void due(String call, long got, long want) {
        if (got != want) {
            wrong++;
            System.out.println(about + ": " + call + " answered " + got + ", due is " + want);
        }
    }

    static void due(String call, boolean got, boolean want) {
        due(call, got ? 1 : 0, want ? 1 : 0);
    }

    static void fails(String call, Call c) {
        String got;
        try {
            got = "answered " + c.answer();
        } catch (NoSuchElementException e) {
            if (e.getClass() == NoSuchElementException.class) {
                return;
            }
            got = "threw " + e;
        } catch (RuntimeException e) {
            got = "threw " + e;
        }
        wrong++;
        System.out.println(about + ": " + call + " " + got + ", due is NoSuchElementException");
    }

    /** Ends the test: with 1 if an answer was wrong. */
    static void end(String well) {
        System.out.println(wrong == 0 ? well : wrong + " answers are not as due");
        if (wrong != 0) {
            System.exit(1);
        }
    }

    static int feed(WhoseKiln x, String text) {
        int there = x.count(5);
        for (int i = 0; i < text.length(); i += 24) {
            long[] v = new long[3];
            for (int j = 0; j < 24; j++) {
                v[j / 8] = v[j / 8] << 8 | (i + j < text.length() ? text.charAt(i + j) : 0);
            }
            there = x.feed(v[0], v[1], v[2]);
        }
        return there;
    }

    static int works(WhoseKiln x, String text) {
        feed(x, text);
        return x.works();
    }

    static WhoseKiln of(String text) {
        WhoseKiln x = new WhoseKiln();
        due("works of " + text, works(x, text), 0);
        return x;
    }

    static void fault(String text, int kind, int place) {
        due("works of " + text, works(new WhoseKiln(), text), kind + 16 * place);
    }

    static void sound(String text) {
        due("works of " + text, works(new WhoseKiln(), text), 0);
    }

    static void share(WhoseKiln x, int person, int pains, long above, long below) {
        due("share(" + person + ", " + pains + ", 0)", x.share(person, pains, 0), above);
        due("share(" + person + ", " + pains + ", 1)", x.share(person, pains, 1), below);
    }

    private static String roundsOf(String... pairs) {
        StringBuilder s = new StringBuilder("person a costs 0 0 0;person b costs 0 0 0;person c costs 0 0 0;person d costs 0 0 0;");
        for (int p = 0; p < 4; p++) {
            s.append("makes 2*(").append(below(pairs[2 * p])).append(")+(").append(below(pairs[2 * p + 1])).append(") with ");
            s.append("abcd".charAt(p)).append(';');
        }
        return s.toString();
    }

    private static String below(String numbers) {
        String[] n = numbers.split(" ");
        String sum = "(a*" + n[0] + "+b*" + n[1] + "+c*" + n[2] + "+d*" + n[3] + ")";
        return sum + "*" + sum + "*" + n[4] + "*" + n[5] + "<0";
    }
}
