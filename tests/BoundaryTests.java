import java.nio.file.Files;
import java.nio.file.Path;
import java.util.BitSet;
import java.util.Map;
import java.util.TreeMap;
import java.util.regex.Matcher;
import java.util.regex.Pattern;

/**
 * Each sentence of the document that names a boundary case, word for word and in the document's order, with a
 * test of its own. The answers are worked out by hand. A sentence that is no longer in the document is told, too.
 */
public final class BoundaryTests {
    private static final int BEYOND = -1000000001;
    private static final int NONE = -1000000002;
    private static final int STATE = -1000000003;
    private static final int FULL = -1000000004;
    private static final int KIND = -1000000005;
    private static final int PARTED = -1000000006;
    private static final int CLAIM = 0;
    private static final int KEEPING = 1;
    private static final int MIN = Integer.MIN_VALUE;
    private static final int MAX = Integer.MAX_VALUE;
    private static final int TERMS = 0;

    private static final Map<Integer, String> document = new TreeMap<>();
    /** Which of a section's signs stand in a sentence that was tested. */
    private static final Map<Integer, BitSet> tested = new TreeMap<>();
    private static final Pattern BOUNDARY = Pattern.compile("\\b(BEYOND|NONE|STATE|FULL|KIND:|PARTED|held|cut|wrap|at most|at least"
        + "|less than|above \\d|below \\d|by 0|empty|missing|too early|at first|any number|lowest bits)|\\d \\.\\. \\d");
    private static int asked = 0;
    private static int sentences = 0;
    private static int wrong = 0;
    private static String now = "";

    public static void main(String[] args) throws Exception {
        readDocument();
        errors();
        dishTerms();
        claimTerms();
        spoilTerms();
        mealTerms();
        drawTerms();
        grammarTerms();
        valueTerms();
        faultTerms();
        thoughtTerms();
        voiceTerms();
        dishPromises();
        textPromises();
        mealPromises();
        thoughtPromises();
        voicePromises();
        sheetPromises();
        imagePromises();
        toldPromises();
        everyBoundaryIsTested();
        System.out.println(sentences + " sentences, " + asked + " answers asked, " + wrong + " not as due");
        if (wrong != 0) {
            System.exit(1);
        }
    }

    // ---- how a sentence is tested

    private static void readDocument() throws Exception {
        int section = TERMS;
        for (String line : Files.readAllLines(Path.of("../shared/DOC.md"))) {
            if (line.startsWith("## Promise ")) {
                section = Integer.parseInt(line.substring(11, line.indexOf(':')));
            }
            if (line.startsWith("## Not promised")) {
                break;
            }
            document.merge(section, line.trim(), (all, more) -> all + " " + more);
            tested.putIfAbsent(section, new BitSet());
        }
    }

    private static void says(int section, String sentence, Runnable test) {
        now = place(section) + ", \"" + sentence + "\"";
        sentences++;
        int at = document.get(section).indexOf(sentence);
        if (at < 0) {
            wrong++;
            System.out.println(now + " does not stand there");
        } else {
            tested.get(section).set(at, at + sentence.length());
        }
        test.run();
    }

    private static String place(int section) {
        return section == TERMS ? "Terms" : "Promise " + section;
    }

    /** Whatever in the document has the look of a boundary must stand in a sentence that was tested. */
    private static void everyBoundaryIsTested() {
        for (int section : document.keySet()) {
            Matcher boundary = BOUNDARY.matcher(document.get(section));
            while (boundary.find()) {
                if (!tested.get(section).get(boundary.start())) {
                    wrong++;
                    int from = Math.max(0, boundary.start() - 40);
                    int to = Math.min(document.get(section).length(), boundary.end() + 40);
                    System.out.println(place(section) + ": no test has the sentence of .. " + document.get(section).substring(from, to));
                }
            }
        }
    }

    private static void due(long want, long got) {
        asked++;
        if (want != got) {
            wrong++;
            StackTraceElement[] trace = new Throwable().getStackTrace();
            int at = 1;
            while (!trace[at].getMethodName().startsWith("lambda")) {
                at++;
            }
            System.out.println(now + ", line " + trace[at].getLineNumber() + ": answered " + got + ", due is " + want);
        }
    }

    /** Dishes km, size, flavour, km, size, flavour, .. */
    private static LeftoverRule with(int... dishes) {
        LeftoverRule x = new LeftoverRule();
        for (int i = 0; i < dishes.length; i += 3) {
            x.dish(dishes[i], dishes[i + 1], dishes[i + 2]);
        }
        return x;
    }

    /** One DISH that has come to an AGE without spoiling: bread doesn't. */
    private static LeftoverRule aged(int km, int size, int age) {
        LeftoverRule x = with(30, size, 0);
        pass(x, age);
        x.become(0, km);
        return x;
    }

    private static LeftoverRule late(int day, int... dishes) {
        LeftoverRule x = new LeftoverRule();
        pass(x, day);
        for (int i = 0; i < dishes.length; i += 3) {
            x.dish(dishes[i], dishes[i + 1], dishes[i + 2]);
        }
        return x;
    }

    private static void pass(LeftoverRule x, int days) {
        for (int left = days; left > 0; left -= 60) {
            x.meals(Math.min(60, left), 0);
        }
    }

    private static void feed(LeftoverRule x, String text) {
        for (int i = 0; i < text.length(); i++) {
            x.feed(text.charAt(i), 1);
        }
    }

    private static int text(LeftoverRule x, int use, String text) {
        feed(x, text);
        return x.text(use);
    }

    /** What a text of CLAIM gives, with c, a, s. */
    private static int given(String text, int c, int a, int s) {
        LeftoverRule x = new LeftoverRule();
        due(1, text(x, CLAIM, text));
        return x.law(CLAIM, c, a, s);
    }

    private static void good(String... texts) {
        for (String text : texts) {
            due(1, text(new LeftoverRule(), CLAIM, text));
        }
    }

    private static void fault(int place, String text) {
        due(-10 - place, text(new LeftoverRule(), CLAIM, text));
    }

    private static void lay(LeftoverRule x, int sheet, int bits, int... numbers) {
        x.sheet(sheet, bits, numbers.length);
        for (int i = 0; i < numbers.length; i++) {
            x.put(sheet, i, numbers[i]);
        }
    }

    private static void sizes(LeftoverRule x, int... want) {
        for (int i = 0; i < want.length; i++) {
            due(want[i], x.dishIs(i, 2));
        }
    }

    private static void trace(LeftoverRule x, int... want) {
        due(want.length, x.count(6));
        for (int i = 0; i < want.length; i++) {
            due(want[i], x.body(i));
        }
    }

    private static int drawn(int z) {
        return (int) (z * 1103515245L + 12345L);
    }

    /** A seed with which the first draw's rest by 4 is so, and the second one's by how many there are. */
    private static int seedWith(int restBy4, int many, int guest) {
        for (int seed = 0; seed < 100000; seed++) {
            int first = drawn(seed);
            if ((first >>> 8) % 4 == restBy4 && (drawn(first) >>> 8) % many == guest) {
                return seed;
            }
        }
        throw new IllegalStateException("no such seed");
    }

    // ---- Terms

    private static void errors() {
        says(TERMS, "An object is used for at most 512 calls after it has been made", () -> {
            LeftoverRule x = new LeftoverRule();
            for (int i = 1; i <= 512; i++) {
                due(i, x.image());
            }
        });
        says(TERMS, "LOW is -1000000000; LOW - 1 BEYOND, LOW - 2 NONE, LOW - 3 STATE, LOW - 4 FULL, LOW - 5 KIND, "
            + "LOW - 6 PARTED", () -> {
            LeftoverRule x = new LeftoverRule();
            due(-1000000001, x.dishIs(0, 0));
            due(-1000000002, x.rules());
            due(-1000000003, x.odds(0));
            for (int i = 0; i < 24; i++) {
                x.tell(i);
            }
            due(-1000000004, x.tell(24));
            x.dish(0, 1, 0);
            due(-1000000005, x.as(0, 1));
            due(-1000000006, x.voice(0, 3, 1));
        });
        says(TERMS, "Each act tells its ERRORS in the order in which they are asked", () -> {
            LeftoverRule full = with(0, 0, 0, 0, 0, 0, 0, 0, 0, 0, 0, 0, 0, 0, 0, 0, 0, 0, 0, 0, 0, 0, 0, 0, 0, 0, 0);
            due(BEYOND, full.dish(70, 1, 1));
            due(BEYOND, full.dish(1, 100, 1));
            due(BEYOND, full.dish(1, 1, 10));
            due(FULL, full.dish(1, 1, 1));
            due(BEYOND, full.brings(0, 0));
            due(BEYOND, full.brings(1, 2));
            due(STATE, full.brings(1, 1));
            due(BEYOND, full.odds(2));
            due(BEYOND, full.clears(0, 7, 0, 0));
            due(BEYOND, full.clears(0, 0, 0, 2));
            due(NONE, full.clears(0, 0, 0, 0));
            due(BEYOND, full.as(9, 1));
            due(BEYOND, full.as(0, 7));
            due(KIND, full.as(0, 6));
            due(BEYOND, full.voice(9, 3, 0));
            due(BEYOND, full.voice(0, 4, 0));
            due(PARTED, full.voice(0, 3, 0));
            for (int i = 0; i < 60; i++) {
                full.feed(0L, 1);
            }
            due(BEYOND, full.feed(0L, 0));
            due(BEYOND, full.feed(0L, 9));
            due(FULL, full.feed(0L, 8));
        });
        says(TERMS, "one that answers an ERROR changes nothing but what told() tells", () -> {
            // With the edges of all arguments, in some states of the house: RefusalTests.
            LeftoverRule x = with(14, 20, 2);
            due(BEYOND, x.dish(20, 30, 10));
            due(BEYOND, x.become(0, 70));
            due(BEYOND, x.serve(0, 100));
            due(BEYOND, x.season(0, 10));
            due(BEYOND, x.meal(100));
            due(1, x.count(0));
            sizes(x, 20);
            due(1, x.dishIs(0, 0));
            due(4, x.dishIs(0, 1));
            due(2, x.dishIs(0, 4));
            due(0, x.count(2));
            due(5, x.told(1));
        });
        says(TERMS, "Quotients are cut toward 0.", () -> {
            due(6 - 3, given("6+c/2", -7, 0, 0));
            due(6 - 3, given("6+c/(0-2)", 7, 0, 0));
            due(3, given("c/(0-2)", -7, 0, 0));
            LeftoverRule x = with(2, 1, 1);
            due(-3, x.voice(0, 3, -7));
            x.become(0, 30);
            due(-3 * 2, x.voice(0, 2, -7));
        });
    }

    private static void dishTerms() {
        says(TERMS, "DISHES 0, 1, .. (at most 9)", () -> {
            LeftoverRule x = new LeftoverRule();
            for (int i = 0; i < 9; i++) {
                due(i, x.dish(0, 1, 0));
            }
            due(FULL, x.dish(0, 1, 0));
            due(9, x.count(0));
            due(1, x.dishIs(8, 2));
            due(BEYOND, x.dishIs(9, 2));
        });
        says(TERMS, "each with a number m (0 .. 9), SIZE (what is left; 0 .. 99), AGE (0 .. 999; 0 at first), a FLAVOUR (0 .. 9)", () -> {
            LeftoverRule x = with(0, 0, 0, 69, 99, 9, 30, 99, 0);
            due(0, x.dishIs(0, 1));
            due(0, x.dishIs(0, 2));
            due(0, x.dishIs(0, 4));
            due(9, x.dishIs(1, 1));
            due(99, x.dishIs(1, 2));
            due(9, x.dishIs(1, 4));
            due(0, x.dishIs(0, 3));
            due(0, x.dishIs(1, 3));
            pass(x, 998);
            due(998, x.dishIs(2, 3));
            x.meal(0);
            due(999, x.dishIs(2, 3));
            x.meals(2, 0);
            due(999, x.dishIs(2, 3));
        });
        says(TERMS, "DAY (0 .. 9999; 0 at first)", () -> {
            due(0, new LeftoverRule().count(2));
            LeftoverRule x = late(9998);
            due(0, x.meal(0));
            due(9999, x.count(2));
            due(STATE, x.meal(0));
            due(9999, x.count(2));
        });
        says(TERMS, "HUNGRY (0 .. 99999; 0 at first)", () -> {
            LeftoverRule x = new LeftoverRule();
            due(0, x.count(3));
            for (int i = 0; i < 16; i++) {
                x.meals(60, 99);
            }
            x.meals(50, 99);
            due(99990, x.count(3));
            x.image();
            x.meal(9);
            due(99999, x.count(3));
            x.meal(1);
            due(99999, x.count(3));
            x.restore();
            x.meal(99);
            due(99999, x.count(3));
            x.meals(60, 99);
            due(99999, x.count(3));
        });
    }

    private static void claimTerms() {
        says(TERMS, "CLAIMS by KIND: DISH: AGE and SIZE by 10 (cut).", () -> {
            LeftoverRule x = with(9, 0, 0, 9, 9, 0, 9, 10, 0, 9, 19, 0, 9, 20, 0, 9, 99, 0);
            int[] claims = {0, 0, 1, 1, 2, 9};
            for (int i = 0; i < 6; i++) {
                due(claims[i], x.dishIs(i, 5));
            }
            due(3 + 1, aged(0, 19, 3).dishIs(0, 5));
        });
        says(TERMS, "JOINT: as DISH, and m.", () -> {
            due(1, with(10, 19, 0).dishIs(0, 5));
            due(10, with(19, 19, 0).dishIs(0, 5));
            due(3 + 1 + 9, aged(19, 19, 3).dishIs(0, 5));
        });
        says(TERMS, "FRUIT: twice DISH's.", () -> {
            due(0, with(29, 9, 0).dishIs(0, 5));
            due(2, with(29, 19, 0).dishIs(0, 5));
            due(2 * (3 + 1), aged(29, 19, 3).dishIs(0, 5));
        });
        says(TERMS, "BREAD: 50 and m, if the rest of DAY by 7 is 4; else as DISH.", () -> {
            int[] days = {0, 3, 4, 5, 7, 10, 11, 12};
            int[] least = {2, 5, 50, 7, 9, 12, 50, 14};
            int[] most = {2, 5, 59, 7, 9, 12, 59, 14};
            for (int i = 0; i < days.length; i++) {
                due(least[i], aged(30, 25, days[i]).dishIs(0, 5));
                due(most[i], aged(39, 25, days[i]).dishIs(0, 5));
            }
            // 9999 by 7 leaves 3, 9996 + 4 would be one more.
            due(0, late(9999, 35, 9, 0).dishIs(0, 5));
            due(55, late(9993, 35, 9, 0).dishIs(0, 5));
            due(0, late(9992, 35, 9, 0).dishIs(0, 5));
        });
        says(TERMS, "HAM: as JOINT, and the rest of SIZE by 7.", () -> {
            due(0, with(40, 0, 0).dishIs(0, 5));
            due(6, with(40, 6, 0).dishIs(0, 5));
            due(0, with(40, 7, 0).dishIs(0, 5));
            due(9 + 9 + 1, with(49, 99, 0).dishIs(0, 5));
            due(3 + 9 + 2 + 6, aged(49, 27, 3).dishIs(0, 5));
        });
        says(TERMS, "PEAR: as FRUIT, and 40.", () -> {
            due(40, with(59, 9, 0).dishIs(0, 5));
            due(42, with(59, 19, 0).dishIs(0, 5));
            due(2 * (3 + 1) + 40, aged(50, 19, 3).dishIs(0, 5));
        });
        says(TERMS, "CHEESE: as DISH, less FLAVOUR.", () -> {
            due(9, with(69, 99, 0).dishIs(0, 5));
            due(0, with(69, 99, 9).dishIs(0, 5));
            LeftoverRule x = with(69, 10, 9);
            due(0, x.dishIs(0, 5));
            // Below 0 it is held behind the TEXT, not ahead of it.
            text(x, CLAIM, "0-c");
            due(8, x.dishIs(0, 5));
            text(x, CLAIM, "c+9");
            due(1, x.dishIs(0, 5));
        });
        says(TERMS, "What a DISH CLAIMS is what the TEXT of that USE makes of it.", () -> {
            LeftoverRule x = with(19, 99, 0, 0, 1, 0);
            due(18, x.dishIs(0, 5));
            text(x, CLAIM, "c*100+a*10+s");
            due(999, x.dishIs(0, 5));
            due(1, x.dishIs(1, 5));
            text(x, CLAIM, "c-19");
            due(0, x.dishIs(0, 5));
            text(x, CLAIM, "100-s");
            due(1, x.rules());
        });
    }

    private static void spoilTerms() {
        says(TERMS, "DISH, JOINT: AGE by 5 (cut).", () -> {
            int[] ages = {0, 4, 5, 9, 10, 999};
            int[] spoils = {0, 0, 1, 1, 2, 199};
            for (int i = 0; i < ages.length; i++) {
                due(spoils[i], aged(9, 99, ages[i]).dishIs(0, 6));
                due(spoils[i], aged(19, 99, ages[i]).dishIs(0, 6));
            }
        });
        says(TERMS, "FRUIT: as DISH, and 1.", () -> {
            due(1, aged(29, 99, 0).dishIs(0, 6));
            due(1, aged(29, 99, 4).dishIs(0, 6));
            due(2, aged(29, 99, 5).dishIs(0, 6));
            due(200, aged(20, 99, 999).dishIs(0, 6));
        });
        says(TERMS, "BREAD: 0.", () -> {
            due(0, aged(39, 99, 0).dishIs(0, 6));
            due(0, aged(39, 99, 999).dishIs(0, 6));
        });
        says(TERMS, "HAM: as JOINT, less 1 (0 at least).", () -> {
            int[] ages = {0, 4, 5, 9, 10, 14, 15, 999};
            int[] spoils = {0, 0, 0, 0, 1, 1, 2, 198};
            for (int i = 0; i < ages.length; i++) {
                due(spoils[i], aged(49, 99, ages[i]).dishIs(0, 6));
            }
        });
        says(TERMS, "PEAR: 0, if m is above 4; else as FRUIT.", () -> {
            for (int m = 0; m <= 9; m++) {
                due(m > 4 ? 0 : 1, aged(50 + m, 99, 0).dishIs(0, 6));
                due(m > 4 ? 0 : 2, aged(50 + m, 99, 5).dishIs(0, 6));
            }
        });
        says(TERMS, "CHEESE: DISH's times m, by 4 (cut).", () -> {
            int[][] ageMSpoils = {{4, 9, 0}, {5, 0, 0}, {5, 3, 0}, {5, 4, 1}, {5, 7, 1}, {5, 8, 2}, {5, 9, 2}, {10, 1, 0},
                {10, 2, 1}, {10, 3, 1}, {15, 3, 2}, {15, 9, 6}, {999, 9, 447}};
            for (int[] each : ageMSpoils) {
                due(each[2], aged(60 + each[1], 99, each[0]).dishIs(0, 6));
            }
        });
    }

    private static void mealTerms() {
        says(TERMS, "THE SAY has of DISHES with SIZE above 0 the one that CLAIMS most; of several the least.", () -> {
            LeftoverRule x = with(59, 0, 0, 0, 1, 0, 0, 30, 0, 0, 39, 0, 0, 29, 0);
            due(40, x.dishIs(0, 5));
            due(2, x.rules());
            x.serve(2, 29);
            due(3, x.rules());
            x.serve(3, 0);
            due(2, x.rules());
            x.serve(2, 0);
            x.serve(4, 0);
            due(1, x.rules());
            x.serve(0, 1);
            due(0, x.rules());
            x.serve(0, 0);
            x.serve(1, 0);
            due(NONE, x.rules());
            // All CLAIM 0.
            LeftoverRule low = with(0, 9, 0, 0, 9, 0);
            due(0, low.rules());
        });
        says(TERMS, "IN KEEPING is a DISH with another one (or itself), if the TEXT of that USE gives 1.", () -> {
            LeftoverRule x = with(0, 50, 5, 0, 9, 3, 0, 9, 4, 0, 9, 5, 0, 9, 6, 0, 9, 7);
            int[] keeps = {1, 0, 1, 1, 1, 0};
            for (int i = 0; i < 6; i++) {
                due(keeps[i], x.dishIs(i, 7));
            }
            text(x, KEEPING, "f>r");
            due(0, x.dishIs(0, 7));
            due(0, x.dishIs(3, 7));
            due(1, x.dishIs(4, 7));
            due(0, x.dishIs(2, 7));
            due(95, x.count(1));
            // Not even itself is eaten then, what is in keeping with it is.
            due(2, x.meal(20));
            sizes(x, 50, 9, 9, 9, 0, 0);
        });
        says(TERMS, "A MEAL with a hunger: DISHES with SIZE above 0 that are IN KEEPING with the one that has THE SAY are eaten", () -> {
            LeftoverRule x = with(0, 0, 5, 0, 9, 7, 0, 20, 5);
            due(99 - 20, x.meal(99));
            sizes(x, 0, 9, 0);
            due(0, x.dishIs(0, 3));
            due(1, x.dishIs(1, 3));
            LeftoverRule none = new LeftoverRule();
            due(99, none.meal(99));
            LeftoverRule empty = with(0, 0, 5);
            due(99, empty.meal(99));
        });
        says(TERMS, "the one that CLAIMS least first (of several the least)", () -> {
            // CLAIMS 3, 1, 1, 0, 0.
            int[][] hungerSizes = {{5, 30, 19, 10, 0, 9}, {6, 30, 19, 10, 0, 8}, {14, 30, 19, 10, 0, 0}, {15, 30, 18, 10, 0, 0},
                {33, 30, 0, 10, 0, 0}, {34, 30, 0, 9, 0, 0}, {43, 30, 0, 0, 0, 0}, {44, 29, 0, 0, 0, 0}, {73, 0, 0, 0, 0, 0}};
            for (int[] each : hungerSizes) {
                LeftoverRule x = with(0, 30, 0, 0, 19, 0, 0, 10, 0, 0, 5, 0, 0, 9, 0);
                due(0, x.meal(each[0]));
                sizes(x, each[1], each[2], each[3], each[4], each[5]);
            }
        });
        says(TERMS, "each as far as hunger goes: SIZE and hunger are less by that", () -> {
            int[][] hungerSizeLeft = {{0, 20, 0}, {1, 19, 0}, {19, 1, 0}, {20, 0, 0}, {21, 0, 1}, {99, 0, 79}};
            for (int[] each : hungerSizeLeft) {
                LeftoverRule x = with(0, 20, 0);
                due(each[2], x.meal(each[0]));
                sizes(x, each[1]);
            }
        });
        says(TERMS, "(who has THE SAY, and all CLAIMS, are as the MEAL begins)", () -> {
            // As soon as DISH 0 is eaten up DISH 1 would have THE SAY, and DISH 2 be in keeping with it.
            LeftoverRule x = with(0, 30, 4, 0, 30, 5, 0, 30, 6);
            due(10, x.meal(70));
            sizes(x, 0, 0, 30);
            // DISH 1 claims less than DISH 2 when the MEAL begins, more when a part of DISH 2 would be gone.
            LeftoverRule held = with(0, 20, 0, 0, 19, 0);
            text(held, CLAIM, "100-s");
            due(0, held.meal(25));
            sizes(held, 0, 14);
        });
        says(TERMS, "of each DISH with SIZE above 0 AGE is 1 more (held)", () -> {
            // The one that is eaten up doesn't age, nor the one that was gone.
            LeftoverRule x = with(30, 10, 0, 30, 9, 0, 30, 0, 0, 30, 50, 1);
            x.meal(9);
            int[] ages = {1, 0, 0, 1};
            for (int i = 0; i < 4; i++) {
                due(ages[i], x.dishIs(i, 3));
            }
            LeftoverRule old = aged(30, 9, 999);
            old.meal(0);
            due(999, old.dishIs(0, 3));
        });
        says(TERMS, "and then SIZE is less by what it SPOILS (0 at least)", () -> {
            // AGE is 1 more first: at 5 it spoils.
            LeftoverRule x = aged(0, 20, 3);
            x.meal(0);
            sizes(x, 20);
            x.meal(0);
            sizes(x, 19);
            LeftoverRule old = aged(0, 20, 98);
            old.meal(0);
            sizes(old, 1);
            old.meal(0);
            sizes(old, 0);
            due(0, old.count(1));
            due(100, old.dishIs(0, 3));
            LeftoverRule exact = aged(0, 20, 99);
            exact.meal(0);
            sizes(exact, 0);
            LeftoverRule fruit = with(20, 1, 0);
            fruit.meal(0);
            sizes(fruit, 0);
            due(1, fruit.dishIs(0, 3));
        });
        says(TERMS, "HUNGRY is more by the hunger that is left (held at 99999)", () -> {
            LeftoverRule x = with(0, 20, 0);
            x.meal(20);
            due(0, x.count(3));
            x.serve(0, 20);
            x.meal(21);
            due(1, x.count(3));
            for (int i = 0; i < 16; i++) {
                x.meals(60, 99);
            }
            x.meals(50, 99);
            due(99991, x.count(3));
            x.meal(8);
            due(99999, x.count(3));
            due(1, x.meal(1));
            due(99999, x.count(3));
        });
        says(TERMS, "DAY is 1 more.", () -> {
            LeftoverRule x = new LeftoverRule();
            x.meal(0);
            due(1, x.count(2));
            x.meals(60, 99);
            due(61, x.count(2));
            x.loose(30);
            due(91, x.count(2));
        });
    }

    private static void drawTerms() {
        says(TERMS, "BY DRAWS a MEAL: if there are DISHES, a draw", () -> {
            LeftoverRule none = new LeftoverRule();
            none.loose(1);
            due(drawn(1), none.count(7));
            // DISHES of SIZE 0 are there.
            for (int rest = 1; rest < 4; rest++) {
                LeftoverRule x = with(0, 0, 0);
                int seed = seedWith(rest, 1, 0);
                x.seed(seed);
                x.loose(1);
                due(drawn(drawn(seed)), x.count(7));
            }
        });
        says(TERMS, "if its rest by 4 is 0, two more", () -> {
            LeftoverRule x = with(0, 0, 0);
            int seed = seedWith(0, 1, 0);
            x.seed(seed);
            x.loose(1);
            due(drawn(drawn(drawn(drawn(seed)))), x.count(7));
        });
        says(TERMS, "SIZE of the one that is the first one's rest by how many there are is more by the second one's rest by 20 (held at 99)", () -> {
            for (int guest = 0; guest < 3; guest++) {
                int seed = seedWith(0, 3, guest);
                int second = drawn(drawn(drawn(seed)));
                int more = (second >>> 8) % 20;
                int hunger = (drawn(second) >>> 8) % 30;
                // Nothing is eaten, nothing spoils.
                LeftoverRule x = with(30, 5, 0, 30, 5, 0, 30, 5, 0);
                text(x, KEEPING, "0");
                x.seed(seed);
                due(hunger, x.loose(1));
                due(5 + more, x.dishIs(guest, 2));
                due(15 + more, x.count(1));
                LeftoverRule big = with(30, 98, 0, 30, 98, 0, 30, 98, 0);
                text(big, KEEPING, "0");
                big.seed(seed);
                big.loose(1);
                due(more > 0 ? 99 : 98, big.dishIs(guest, 2));
                due(more > 0 ? 295 : 294, big.count(1));
            }
        });
        says(TERMS, "then a draw: a MEAL with the hunger that is its rest by 30.", () -> {
            LeftoverRule x = new LeftoverRule();
            int z = 1;
            for (int i = 0; i < 100; i++) {
                z = drawn(z);
                due((z >>> 8) % 30, x.loose(1));
            }
        });
        says(TERMS, "z is told (1 at first); each makes it z * 1103515245 + 12345 (an int), and gives z >>> 8.", () -> {
            due(1, new LeftoverRule().count(7));
            int[] from = {0, 1, -1, 2, MAX, MIN};
            int[] to = {12345, 1103527590, -1103502900, -2087924461, 1043980748, -2147471303};
            // (z >>> 8) % 30, of z read without its sign: 3191464396 / 256 = 12466657, 2207042835 / 256 = 8621261, ..
            int[] hunger = {48 % 30, 4310654 % 30, 12466657 % 30, 8621261 % 30, 4078049 % 30, 8388656 % 30};
            for (int i = 0; i < from.length; i++) {
                LeftoverRule x = new LeftoverRule();
                x.seed(from[i]);
                due(hunger[i], x.loose(1));
                due(to[i], x.count(7));
            }
        });
    }

    private static void grammarTerms() {
        says(TERMS, "TEXTS are read from THE TAPE (bytes, at most 60)", () -> {
            LeftoverRule x = new LeftoverRule();
            for (int i = 0; i < 30; i++) {
                due(2 * i + 1, x.feed('1', 1));
                if (i < 29) {
                    due(2 * i + 2, x.feed('+', 1));
                }
            }
            due(60, x.feed('0', 1));
            due(FULL, x.feed('0', 1));
            due(1, x.text(CLAIM));
            due(29 + 10, x.law(CLAIM, 0, 0, 0));
            // A byte is all eight bits of it.
            fault(0, "\u00e3");
            fault(1, "c\u00ab1");
            fault(1, "c\u0000");
        });
        says(TERMS, "T: A { | A }.", () -> {
            good("c", "c|a", "c|a|s", "c&a|s&c");
            fault(0, "|c");
            fault(2, "c|");
            fault(2, "c||a");
        });
        says(TERMS, "A: B { & B }.", () -> {
            good("c&a", "c&a&s", "c<a&a<s");
            fault(0, "&c");
            fault(2, "c&");
            fault(2, "c&&a");
        });
        says(TERMS, "B: S, or S < S, S = S, S > S.", () -> {
            good("c<a", "c=a", "c>a", "c+a<s-1", "c<a|c>s", "c<a&c=s&a>s", "(c<a)<s", "c<(a<s)");
            fault(3, "c<a<s");
            fault(3, "c=a>s");
            fault(3, "c>a=s");
            fault(5, "c<a+1<s");
            fault(2, "c<=a");
            fault(2, "c<");
            fault(0, "=c");
            fault(4, "(c<a=s)");
            fault(7, "c|a<s+1>c");
        });
        says(TERMS, "S: P { + P, - P }.", () -> {
            good("c+a", "c-a", "c+a-s+1-2");
            fault(0, "-c");
            fault(0, "+c");
            fault(2, "c+");
            fault(2, "c--a");
            fault(2, "c+-a");
            fault(2, "c<-a");
        });
        says(TERMS, "P: Q { * Q, / Q, % Q }.", () -> {
            good("c*a", "c/a", "c%a", "c*a/s%9*2");
            fault(0, "*c");
            fault(2, "c*");
            fault(2, "c//a");
            fault(2, "c*-a");
        });
        says(TERMS, "Q: a NUMBER of 1 to 4 digits, a NAME, ! Q, ( T ).", () -> {
            good("0", "9", "10", "999", "9999", "0000", "c", "a", "s", "!c", "!!c", "!9", "!(c|a)", "(c)", "((c))", "(c<a)*2");
            due(999, given("9999-9000", 5, 6, 7));
            due(0, given("9999-9999", 5, 6, 7));
            due(12, given("0012", 5, 6, 7));
            fault(4, "12345");
            fault(4, "00000");
            fault(6, "c+12345");
            fault(1, "1c");
            fault(1, "c1");
            fault(1, "cc");
            fault(1, "!");
            fault(1, "c!");
            fault(1, "!)");
            fault(1, "()");
            fault(2, "(c");
            fault(1, "c)");
            fault(3, "(c)c");
            fault(3, "(c)(c)");
            fault(1, "1(c)");
            fault(0, ")");
            fault(0, "C");
            fault(0, "f");
            fault(2, "c+d");
            for (int sign = 0; sign < 256; sign++) {
                boolean begins = sign >= '0' && sign <= '9' || sign == 'c' || sign == 'a' || sign == 's';
                boolean open = sign == '!' || sign == '(';
                LeftoverRule x = new LeftoverRule();
                due(begins ? 1 : open ? -11 : -10, text(x, CLAIM, "" + (char) sign));
                LeftoverRule y = new LeftoverRule();
                boolean name = sign == 'f' || sign == 'r' || sign == 'd';
                due(sign >= '0' && sign <= '9' || name ? 1 : open ? -11 : -10, text(y, KEEPING, "" + (char) sign));
            }
        });
        says(TERMS, "No blanks.", () -> {
            fault(0, " c");
            fault(1, "c ");
            fault(1, "c +a");
            fault(2, "c+ a");
            fault(1, "( c)");
            fault(1, "! c");
            fault(1, "1 0");
            fault(1, "c\t");
            fault(1, "c\n");
        });
        says(TERMS, "At most 5 of ! and ( are open at once.", () -> {
            good("!!!!!c", "(((((c)))))", "(!(!(c)))", "!(!(!c))", "!!!!!c+!!!!!c", "(((((c)))))*(((((a)))))", "((((!c+!a))))",
                "((((!c)+!a)))", "!!!!(c)+(!!!!a)", "(((((c)+(a))+(s))))");
            fault(5, "!!!!!!c");
            fault(5, "((((((c))))))");
            fault(5, "(!(!(!c)))");
            fault(5, "!!!!!(c)");
            fault(5, "(((((!c");
            fault(5, "!(!(!(c)))");
            fault(17, "(((((c)))))+(((((!c");
        });
    }

    private static void valueTerms() {
        says(TERMS, "Ints that wrap", () -> {
            due(1, given("c+1<0", MAX, 0, 0));
            due(1, given("c-1>0", MIN, 0, 0));
            due(1, given("c*2=0", MIN, 0, 0));
            due(1, given("c*c=0", 65536, 0, 0));
            due(1, given("0-c=c", MIN, 0, 0));
            due(1, given("c+a=0-2", MAX, MAX, 0));
            due(1, given("c+a=s", MAX, 1, MIN));
            due(1, given("c-a=s", MIN, 1, MAX));
            // < compares what they are, not their difference.
            due(1, given("c<a", MIN, MAX, 0));
            due(0, given("c>a", MIN, MAX, 0));
            due(1, given("c>a", MAX, MIN, 0));
        });
        says(TERMS, "/ cut, % the rest that it leaves, both by 0 are 0", () -> {
            due(3, given("c/2", 7, 0, 0));
            due(10 - 3, given("10+c/2", -7, 0, 0));
            due(10 - 3, given("10+c/a", 7, -2, 0));
            due(1, given("c%2", 7, 0, 0));
            due(10 - 1, given("10+c%2", -7, 0, 0));
            due(10 + 1, given("10+c%a", 7, -2, 0));
            due(10 - 1, given("10+c%a", -7, -2, 0));
            due(10, given("10+c/0", 7, 0, 0));
            due(10, given("10+c%0", 7, 0, 0));
            due(10, given("10+c/a", MIN, 0, 0));
            due(10, given("10+c%a", MIN, 0, 0));
            due(0, given("0/0", 0, 0, 0));
            due(0, given("0%0", 0, 0, 0));
            due(1, given("c/a=c", MIN, -1, 0));
            due(10, given("10+c%a", MIN, -1, 0));
        });
        says(TERMS, "| & < = > ! are 1 or 0, what is not 0 being true; all is worked out.", () -> {
            due(1, given("c|a", 1, 2, 0));
            due(1, given("c|a", 0, -1, 0));
            due(1, given("c|a", MIN, 0, 0));
            due(0, given("c|a", 0, 0, 0));
            due(1, given("c&a", 1, 2, 0));
            due(1, given("c&a", -1, MIN, 0));
            due(0, given("c&a", 0, 5, 0));
            due(0, given("c&a", 5, 0, 0));
            due(0, given("!c", 2, 0, 0));
            due(0, given("!c", -1, 0, 0));
            due(0, given("!c", MIN, 0, 0));
            due(1, given("!c", 0, 0, 0));
            due(1, given("!!c", 7, 0, 0));
            int[][] pairs = {{1, 2, 1, 0, 0}, {2, 2, 0, 1, 0}, {3, 2, 0, 0, 1}, {-1, 0, 1, 0, 0}, {MAX, MAX, 0, 1, 0}};
            for (int[] each : pairs) {
                due(each[2], given("c<a", each[0], each[1], 0));
                due(each[3], given("c=a", each[0], each[1], 0));
                due(each[4], given("c>a", each[0], each[1], 0));
            }
            // By 0 on the side that needs no looking at: it is worked out, and is 0.
            due(1, given("1|c/0", 5, 0, 0));
            due(0, given("0&c%0", 5, 0, 0));
        });
        says(TERMS, "T: A { | A }. A: B { & B }. B: S, or S < S, S = S, S > S. S: P { + P, - P }. P: Q { * Q, / Q, % Q }.", () -> {
            // Which sign takes what is beside it, and that equal ones go from the left.
            due(1, given("1|0&0", 0, 0, 0));
            due(1, given("0&0|1", 0, 0, 0));
            due(1, given("2&1<2", 0, 0, 0));
            due(1, given("1<1+1", 0, 0, 0));
            due(7, given("1+2*3", 0, 0, 0));
            due(5, given("9-3-1", 0, 0, 0));
            due(7, given("9-3+1", 0, 0, 0));
            due(2, given("12/3/2", 0, 0, 0));
            due(8, given("12/3*2", 0, 0, 0));
            due(2, given("7*5%11", 0, 0, 0));
            due(1, given("15%8%3", 0, 0, 0));
            due(5, given("!0*5", 0, 0, 0));
            due(1, given("!3<1", 0, 0, 0));
            due(9, given("(1+2)*3", 0, 0, 0));
            due(7, given("9-(3-1)", 0, 0, 0));
        });
        says(TERMS, "held within 0 .. 999; without a TEXT c (held likewise).", () -> {
            LeftoverRule x = new LeftoverRule();
            int[] numbers = {MIN, -1, 0, 1, 998, 999, 1000, MAX};
            int[] held = {0, 0, 0, 1, 998, 999, 999, 999};
            for (int i = 0; i < numbers.length; i++) {
                due(held[i], x.law(CLAIM, numbers[i], 7, 7));
            }
            text(x, CLAIM, "a");
            for (int i = 0; i < numbers.length; i++) {
                due(held[i], x.law(CLAIM, 7, numbers[i], 7));
            }
            text(x, CLAIM, "s");
            for (int i = 0; i < numbers.length; i++) {
                due(held[i], x.law(CLAIM, 7, 7, numbers[i]));
            }
        });
        says(TERMS, "held within 0 .. 1; without a TEXT 1, if these FLAVOURS differ by less than 2, else 0.", () -> {
            LeftoverRule x = new LeftoverRule();
            for (int f = 0; f <= 9; f++) {
                for (int r = 0; r <= 9; r++) {
                    due(f - r >= -1 && f - r <= 1 ? 1 : 0, x.law(KEEPING, f, r, 0));
                }
            }
            due(0, x.law(KEEPING, MIN, MAX, 0));
            due(0, x.law(KEEPING, MAX, MIN, 0));
            due(0, x.law(KEEPING, MIN, 0, 0));
            due(1, x.law(KEEPING, MAX, MAX - 1, 0));
            int[] numbers = {MIN, -1, 0, 1, 2, MAX};
            int[] held = {0, 0, 0, 1, 1, 1};
            String[] names = {"f", "r", "d"};
            for (int name = 0; name < 3; name++) {
                due(1, text(x, KEEPING, names[name]));
                for (int i = 0; i < numbers.length; i++) {
                    int[] with = {0, 0, 0};
                    with[name] = numbers[i];
                    due(held[i], x.law(KEEPING, with[0], with[1], with[2]));
                }
            }
        });
        says(TERMS, "NAMES f FLAVOUR of the one, r that of the other one, d the rest of DAY by 7", () -> {
            LeftoverRule x = with(30, 90, 2, 30, 10, 7);
            text(x, KEEPING, "f=7&r=2");
            due(1, x.dishIs(1, 7));
            due(0, x.dishIs(0, 7));
            for (int d = 0; d < 7; d++) {
                LeftoverRule y = with(30, 90, 2);
                text(y, KEEPING, "d=" + d);
                for (int day = 0; day < 15; day++) {
                    due(day % 7 == d ? 1 : 0, y.dishIs(0, 7));
                    y.meal(0);
                }
            }
        });
    }

    private static void faultTerms() {
        says(TERMS, "FAULT: the place of the first byte with which no TEXT goes on; how many there are, if it ends too early.", () -> {
            fault(0, "");
            fault(0, "x");
            fault(1, "cx+");
            fault(3, "c+a)+(");
            fault(1, "(");
            fault(2, "c+");
            fault(3, "(c+");
            fault(4, "(c+a");
            fault(6, "((c+a)");
            fault(2, "!!");
            fault(2, "c<");
            StringBuilder whole = new StringBuilder("1");
            while (whole.length() < 59) {
                whole.append("+1");
            }
            fault(60, whole + "+");
            fault(59, whole + ")");
            good(whole.toString(), whole + "1");
        });
    }

    private static void thoughtTerms() {
        says(TERMS, "(All this is only thought; DAY beyond 9999, too.)", () -> {
            LeftoverRule x = late(9999, 30, 9, 0, 0, 99, 0);
            lay(x, 0, 8, 0);
            // The MEALS are on days 9999 (by 7: 3), 10000 (4, a Thursday for bread) and 10001.
            due(1, x.then(0, 0, 1));
            due(0, x.then(1, 0, 1));
            due(1, x.then(2, 0, 1));
            due(0, x.then(60, 99, 0));
            // The bread is eaten last on its Thursday.
            due(3, x.gone(0, 5));
            due(54, x.needs(2));
            due(1, x.clears(1, 1, 0, 0));
            due(0, x.clears(0, 1, 0, 0));
            due(108 + 50, x.brings(50, 1));
            due(1, x.odds(0));
            due(91, x.fits(0, 0));
            due(9, x.fits(0, 1));
            due(9999, x.count(2));
            due(108, x.count(1));
            due(0, x.count(3));
            due(2, x.count(0));
            due(0, x.dishIs(0, 3));
            due(0, x.told(2));
        });
        says(TERMS, "THEN: what is left in all, who has THE SAY, n MEALS of a hunger on.", () -> {
            LeftoverRule x = with(0, 30, 3, 20, 25, 3);
            due(55, x.then(0, 99, 0));
            due(1, x.then(0, 99, 1));
            // DISH 0 is eaten first; the fruit spoils 1.
            due(55 - 29 - 1, x.then(1, 29, 0));
            due(25 - 1 - 1, x.then(1, 31, 0));
            due(0, x.then(1, 55, 0));
            due(-1, x.then(1, 55, 1));
            due(1, x.then(1, 53, 0));
            due(0, x.then(1, 54, 0));
        });
        says(TERMS, "GONE: behind how many MEALS (0 .. 60) of a hunger a DISH first has SIZE 0.", () -> {
            LeftoverRule x = with(30, 60, 0, 30, 0, 0);
            due(0, x.gone(1, 0));
            due(60, x.gone(0, 1));
            due(30, x.gone(0, 2));
            due(1, x.gone(0, 60));
            due(2, x.gone(0, 59));
            x.serve(0, 61);
            due(NONE, x.gone(0, 1));
            due(NONE, x.gone(0, 0));
        });
        says(TERMS, "NEEDS by n: the least hunger (0 .. 99) with which nothing is left in all behind n MEALS of it.", () -> {
            LeftoverRule x = with(30, 99, 0);
            due(NONE, x.needs(0));
            due(99, x.needs(1));
            due(50, x.needs(2));
            due(5, x.needs(20));
            x.dish(30, 1, 0);
            due(NONE, x.needs(1));
            due(50, x.needs(2));
            x.serve(0, 0);
            x.serve(1, 0);
            due(0, x.needs(0));
            due(0, x.needs(20));
            // A fruit of SIZE 1 spoils by itself.
            due(0, with(20, 1, 0).needs(1));
            due(1, with(20, 2, 0).needs(1));
            due(0, with(20, 2, 0).needs(2));
        });
        says(TERMS, "CLEARS for a DISH: the fewest DISHES of which SIZE is to be 0 now so that it has THE SAY n MEALS of a hunger on; of several sets the least (bits).", () -> {
            LeftoverRule x = with(0, 99, 0, 0, 89, 0, 0, 79, 0, 0, 69, 0, 0, 59, 0, 0, 49, 0, 0, 39, 0, 0, 29, 0, 0, 19, 0);
            for (int i = 0; i < 9; i++) {
                due(i, x.clears(i, 0, 0, 0));
                due((1 << i) - 1, x.clears(i, 0, 0, 1));
            }
            // Either of 0 and 1 being gone, 70 is left of the other, which is eaten first, being less in claim than 2.
            LeftoverRule either = with(0, 40, 3, 0, 40, 3, 0, 30, 9);
            due(1, either.clears(2, 1, 40, 0));
            due(1, either.clears(2, 1, 40, 1));
            due(0, either.clears(0, 0, 0, 0));
            due(0, either.clears(0, 0, 0, 1));
            due(1, either.clears(1, 0, 0, 0));
            due(1, either.clears(1, 0, 0, 1));
            either.serve(2, 0);
            due(NONE, either.clears(2, 0, 0, 0));
            due(NONE, either.clears(0, 1, 80, 0));
            due(NONE, either.clears(0, 1, 80, 1));
        });
        says(TERMS, "BRINGS of a size: were there one more DISH (the last one, of KIND 0, m 0)", () -> {
            // By size 39 both claim 3, and the new one, being the last, hasn't THE SAY; by size 40 it has.
            LeftoverRule x = with(0, 30, 3);
            text(x, KEEPING, "f<r");
            due(0, x.brings(39, 0));
            due(39, x.brings(39, 1));
            due(4, x.brings(40, 0));
            due(30, x.brings(40, 1));
            // It is of AGE 0, too.
            LeftoverRule old = aged(0, 9, 1);
            text(old, KEEPING, "f<r");
            old.season(0, 3);
            due(19, old.brings(19, 1));
            due(9, old.brings(20, 1));
        });
        says(TERMS, "by which FLAVOUR (0 .. 9) of it most could be eaten at the next MEAL (SIZES of all that is IN KEEPING with the one that had THE SAY then, together); of several the least; how much.", () -> {
            for (int flavour = 0; flavour <= 9; flavour++) {
                LeftoverRule x = with(0, 30, flavour);
                due(Math.max(0, flavour - 1), x.brings(1, 0));
                due(31, x.brings(1, 1));
                text(x, KEEPING, "f=r");
                due(flavour, x.brings(1, 0));
                due(31, x.brings(1, 1));
                text(x, KEEPING, "0");
                due(0, x.brings(1, 0));
                due(0, x.brings(1, 1));
            }
        });
        says(TERMS, "ODDS: that a bite, of all that is left each as likely, is of a DISH that is IN KEEPING with the one that has THE SAY: a fraction in lowest terms (0 is 0 by 1).", () -> {
            LeftoverRule x = with(0, 30, 3, 0, 18, 9, 0, 0, 3);
            due(5, x.odds(0));
            due(8, x.odds(1));
            x.serve(1, 29);
            due(30, x.odds(0));
            due(59, x.odds(1));
            x.serve(1, 0);
            due(1, x.odds(0));
            due(1, x.odds(1));
            text(x, KEEPING, "0");
            due(0, x.odds(0));
            due(1, x.odds(1));
        });
        says(TERMS, "FITS: a SHEET tells SIZES of DISHES 0, 1, .. behind one MEAL: with how many hungers (0 .. 99) that is so; the least.", () -> {
            LeftoverRule x = with(30, 99, 0, 30, 9, 9);
            lay(x, 0, 8, 99);
            due(1, x.fits(0, 0));
            due(0, x.fits(0, 1));
            lay(x, 0, 8, 0, 9);
            due(1, x.fits(0, 0));
            due(99, x.fits(0, 1));
            x.serve(0, 98);
            due(2, x.fits(0, 0));
            due(98, x.fits(0, 1));
            lay(x, 0, 8, 0, 8);
            due(0, x.fits(0, 0));
            due(NONE, x.fits(0, 1));
            lay(x, 0, 8);
            due(100, x.fits(0, 0));
            due(0, x.fits(0, 1));
            lay(x, 0, 8, 0, 9, 0);
            due(0, x.fits(0, 0));
        });
    }

    private static void voiceTerms() {
        says(TERMS, "VOICES of a DISH, with a number x (ints that wrap); k is the number, m as told", () -> {
            LeftoverRule x = with(9, 1, 1, 9, 1, 1);
            due(MAX, x.voice(0, 0, MAX));
            due(MIN, x.voice(1, 0, MAX));
            due(-2, x.voice(0, 1, MAX));
            due(0, x.voice(0, 1, MIN));
            // 0 less 9.
            due(-9, x.voice(0, 2, MIN));
            x.become(0, 10);
            due(MAX - 3, x.voice(0, 0, MIN));
            x.become(0, 20);
            due(2, x.voice(0, 1, MAX));
            // -(2 * 2^30) is MIN again.
            due(MIN, x.voice(0, 1, 1 << 30));
            x.become(0, 50);
            due(0, x.voice(0, 1, MAX));
            x.become(0, 40);
            // (MAX - 4) * 3.
            due(MAX - 14, x.voice(0, 0, MAX));
            x.become(1, 10);
            // MIN by -1, and asks(1): (1 + 1 - 4) * 2.
            due(MIN - 4, x.voice(1, 3, MIN));
            x.become(1, 0);
            due(MIN, x.voice(1, 3, MIN));
            due(-MAX, x.voice(1, 3, MAX));
        });
        says(TERMS, "13 parts: x by (m - k), cut (PARTED if that is 0; that is all that voice() answers then).", () -> {
            for (int kind = 0; kind < 7; kind++) {
                LeftoverRule x = new LeftoverRule();
                for (int k = 0; k < 9; k++) {
                    x.dish(10 * kind + k, 1, 1);
                    due(PARTED, x.voice(k, 3, 5));
                    due(PARTED, x.voice(k, 3, 0));
                }
                due(18, x.told(6));
            }
            LeftoverRule x = with(0, 1, 1, 3, 1, 1);
            due(3, x.voice(1, 3, 7));
            due(-3, x.voice(1, 3, -7));
            x.become(1, 0);
            due(-7, x.voice(1, 3, 7));
            due(0, x.voice(1, 3, 0));
        });
        says(TERMS, "sighs(..) is the BODY of its KIND, or of the next KIND above that has one; super.sighs(..) that from the KIND above the BODY's on.", () -> {
            // x 10, of the DISH with k 0, m 7.
            int[][] want = {{10, 20, 13, 1}, {6, 12, 5, 1 - 6}, {10, -20, -27, 1}, {10, 20, 3, 1}, {18, 36, 29, 1 - 18},
                {10, -22, -29, 1}, {9, 25, 18, 1}};
            for (int kind = 0; kind < 7; kind++) {
                LeftoverRule x = with(10 * kind + 7, 1, 1);
                for (int voice = 0; voice < 4; voice++) {
                    due(want[kind][voice], x.voice(0, voice, 10));
                }
            }
            // k 3: ((10 + 3 - 4) * 3 * 2 - 7) ^ 3, where no other sign than ^ gives that.
            LeftoverRule ham = with(0, 1, 1, 0, 1, 1, 0, 1, 1, 47, 1, 1);
            due(47 ^ 3, ham.voice(3, 2, 10));
            due(44, ham.voice(3, 2, 10));
        });
        says(TERMS, "THE TRACE: the numbers of BODIES of the latest voice(), as they began (what stands left is worked out first), the first 30.", () -> {
            LeftoverRule x = with(19, 1, 1, 48, 1, 1);
            trace(x);
            x.voice(0, 3, 5);
            trace(x, 21, 13, 11, 20, 10);
            x.voice(1, 3, 5);
            trace(x, 21, 13, 11, 50, 20, 10);
            x.voice(1, 2, 5);
            trace(x, 51, 12, 11, 50, 20, 10);
            due(BEYOND, x.voice(2, 0, 5));
            trace(x, 51, 12, 11, 50, 20, 10);
            x.voice(0, 0, 5);
            trace(x, 20, 10);
            // What was PARTED began.
            x.become(0, 10);
            due(PARTED, x.voice(0, 3, 5));
            trace(x, 21, 13);
        });
        says(TERMS, "SHEETS 0 .. 3 are rows of 8, 16, 32 bits, at most 24 numbers, or missing (as at first).", () -> {
            LeftoverRule x = new LeftoverRule();
            for (int sheet = 0; sheet < 4; sheet++) {
                due(NONE, x.put(sheet, 0, 0));
                due(NONE, x.serves(sheet));
                due(NONE, x.judge(sheet));
                due(NONE, x.fits(sheet, 0));
                due(NONE, x.move(sheet, 0, sheet, 0, 0));
                for (int bits = 8; bits <= 32; bits *= 2) {
                    due(1, x.sheet(sheet, bits, 24));
                    due(1, x.put(sheet, 23, 5));
                    due(BEYOND, x.put(sheet, 24, 5));
                    due(BEYOND, x.sheet(sheet, bits, 25));
                }
            }
            for (int bits = -40; bits <= 70; bits++) {
                due(bits == 0 || bits == 8 || bits == 16 || bits == 32 ? 1 : BEYOND, x.sheet(0, bits, 1));
            }
            due(BEYOND, x.sheet(4, 8, 1));
            due(BEYOND, x.sheet(-1, 8, 1));
        });
    }

    // ---- Promises

    private static void dishPromises() {
        says(1, "All as at first; no DISHES, no TEXTS.", () -> {
            LeftoverRule x = new LeftoverRule();
            for (int what = 0; what < 7; what++) {
                due(0, x.count(what));
            }
            due(1, x.count(7));
            for (int k = 1; k <= 6; k++) {
                due(0, x.told(k));
            }
            due(BEYOND, x.dishIs(0, 0));
            due(BEYOND, x.become(0, 0));
            due(BEYOND, x.as(0, 0));
            due(BEYOND, x.serve(0, 0));
            due(BEYOND, x.season(0, 0));
            due(BEYOND, x.gone(0, 0));
            due(BEYOND, x.clears(0, 0, 0, 0));
            due(BEYOND, x.voice(0, 0, 0));
            due(NONE, x.rules());
            due(NONE, x.restore());
            due(NONE, x.body(0));
            due(STATE, x.odds(0));
            due(STATE, x.brings(1, 0));
            due(0, x.untell(0));
            due(0, x.untell(1));
            due(0, x.then(0, 0, 0));
            due(-1, x.then(60, 0, 1));
            due(0, x.needs(0));
            due(0, x.check());
            due(-10, x.text(0));
            due(1, x.image());
        });
        says(2, "One more DISH (km: 10 times the KIND, and m): the number.", () -> {
            LeftoverRule x = new LeftoverRule();
            int[] km = {0, 9, 10, 19, 39, 40, 59, 60, 69};
            for (int i = 0; i < 9; i++) {
                due(i, x.dish(km[i], 0, 0));
                due(km[i] / 10, x.dishIs(i, 0));
                due(km[i] % 10, x.dishIs(i, 1));
            }
        });
        says(2, "BEYOND.", () -> {
            LeftoverRule x = new LeftoverRule();
            for (int km : new int[] {MIN, -10, -1, 70, 71, 100, MAX}) {
                due(BEYOND, x.dish(km, 5, 5));
            }
            for (int size : new int[] {MIN, -1, 100, MAX}) {
                due(BEYOND, x.dish(5, size, 5));
            }
            for (int flavour : new int[] {MIN, -1, 10, MAX}) {
                due(BEYOND, x.dish(5, 5, flavour));
            }
            due(0, x.count(0));
            due(0, x.dish(69, 99, 9));
            due(1, x.dish(0, 0, 0));
        });
        says(2, "FULL.", () -> {
            LeftoverRule x = with(0, 1, 0, 0, 1, 0, 0, 1, 0, 0, 1, 0, 0, 1, 0, 0, 1, 0, 0, 1, 0, 0, 1, 0);
            due(8, x.dish(5, 5, 5));
            due(FULL, x.dish(6, 6, 6));
            due(5, x.dishIs(8, 2));
            due(13, x.count(1));
        });
        says(3, "BEYOND.", () -> {
            LeftoverRule x = with(0, 1, 0);
            for (int dish : new int[] {MIN, -1, 1, 8, 9, MAX}) {
                due(BEYOND, x.dishIs(dish, 0));
            }
            for (int what : new int[] {MIN, -1, 8, MAX}) {
                due(BEYOND, x.dishIs(0, what));
            }
        });
        says(3, "7 whether it is IN KEEPING with the one that has THE SAY (1; 0, also if none has)", () -> {
            LeftoverRule x = with(0, 50, 3, 0, 0, 4, 0, 0, 5);
            due(1, x.dishIs(0, 7));
            due(1, x.dishIs(1, 7));
            due(0, x.dishIs(2, 7));
            x.serve(0, 0);
            due(0, x.dishIs(0, 7));
            due(0, x.dishIs(1, 7));
            text(x, KEEPING, "1");
            due(0, x.dishIs(0, 7));
        });
        says(4, "A DISH becomes one of a KIND, with m (km): the KIND that it was.", () -> {
            LeftoverRule x = with(69, 20, 2);
            due(6, x.become(0, 0));
            due(0, x.dishIs(0, 1));
            due(0, x.become(0, 69));
            due(9, x.dishIs(0, 1));
            due(6, x.become(0, 69));
            sizes(x, 20);
            due(2, x.dishIs(0, 4));
        });
        says(4, "BEYOND.", () -> {
            LeftoverRule x = with(14, 20, 2);
            for (int km : new int[] {MIN, -1, 70, MAX}) {
                due(BEYOND, x.become(0, km));
            }
            for (int dish : new int[] {MIN, -1, 1, MAX}) {
                due(BEYOND, x.become(dish, 0));
            }
            due(1, x.dishIs(0, 0));
            due(4, x.dishIs(0, 1));
        });
        says(5, "A DISH as one of a KIND: m.", () -> {
            LeftoverRule x = with(40, 1, 1, 59, 1, 1);
            due(0, x.as(0, 4));
            due(0, x.as(0, 0));
            due(9, x.as(1, 5));
            due(9, x.as(1, 2));
            due(4, x.dishIs(0, 0));
        });
        says(5, "KIND: it isn't of that KIND, nor of one under it.", () -> {
            String[] above = {"0", "01", "02", "03", "014", "025", "06"};
            for (int mine = 0; mine < 7; mine++) {
                LeftoverRule x = with(10 * mine + 5, 1, 1);
                for (int kind = 0; kind < 7; kind++) {
                    due(above[mine].indexOf('0' + kind) >= 0 ? 5 : KIND, x.as(0, kind));
                }
            }
        });
        says(5, "BEYOND.", () -> {
            LeftoverRule x = with(0, 1, 1);
            for (int kind : new int[] {MIN, -1, 7, MAX}) {
                due(BEYOND, x.as(0, kind));
            }
            for (int dish : new int[] {MIN, -1, 1, MAX}) {
                due(BEYOND, x.as(dish, 0));
            }
        });
        says(6, "BEYOND.", () -> {
            LeftoverRule x = with(0, 20, 1);
            for (int size : new int[] {MIN, -1, 100, MAX}) {
                due(BEYOND, x.serve(0, size));
            }
            for (int dish : new int[] {MIN, -1, 1, MAX}) {
                due(BEYOND, x.serve(dish, 0));
            }
            due(20, x.serve(0, 0));
            due(0, x.serve(0, 99));
            due(99, x.serve(0, 99));
        });
        says(7, "BEYOND.", () -> {
            LeftoverRule x = with(0, 20, 1);
            for (int flavour : new int[] {MIN, -1, 10, MAX}) {
                due(BEYOND, x.season(0, flavour));
            }
            for (int dish : new int[] {MIN, -1, 1, MAX}) {
                due(BEYOND, x.season(dish, 0));
            }
            due(1, x.season(0, 0));
            due(0, x.season(0, 9));
            due(9, x.season(0, 9));
        });
        says(8, "NONE: nothing is left.", () -> {
            LeftoverRule x = new LeftoverRule();
            due(NONE, x.rules());
            x.dish(0, 0, 0);
            due(NONE, x.rules());
            x.dish(0, 1, 0);
            due(1, x.rules());
            x.meal(1);
            due(NONE, x.rules());
            due(3, x.told(2));
        });
    }

    private static void textPromises() {
        says(9, "The n lowest bytes (1 .. 8) of a word, the lowest first, come to THE TAPE: how many there are.", () -> {
            LeftoverRule x = new LeftoverRule();
            // "2" and then what stands above it, which doesn't come.
            due(1, x.feed(0x4141414141414132L, 1));
            due(1, x.text(CLAIM));
            due(2, x.law(CLAIM, 0, 0, 0));
            // "9-1-1-1+", "3".
            due(8, x.feed(0x2B312D312D312D39L, 8));
            due(9, x.feed(0x33L, 1));
            due(1, x.text(CLAIM));
            due(9, x.law(CLAIM, 0, 0, 0));
            // The highest byte of a word below 0.
            due(8, x.feed(0xE331313131313131L, 8));
            due(-10 - 4, x.text(CLAIM));
            due(4, x.feed(0xE3312B31L, 4));
            due(-10 - 3, x.text(CLAIM));
        });
        says(9, "BEYOND.", () -> {
            LeftoverRule x = new LeftoverRule();
            for (int n : new int[] {MIN, -1, 0, 9, MAX}) {
                due(BEYOND, x.feed(0L, n));
            }
            due(0, x.count(4));
            due(1, x.feed(0L, 1));
            due(9, x.feed(0L, 8));
        });
        says(9, "FULL.", () -> {
            for (int n = 1; n <= 8; n++) {
                LeftoverRule x = new LeftoverRule();
                for (int i = 0; i < 61 - n; i++) {
                    x.feed('0', 1);
                }
                due(FULL, x.feed(0x3030303030303030L, n));
                due(61 - n, x.count(4));
                if (n > 1) {
                    due(60, x.feed(0x3030303030303030L, n - 1));
                }
                due(FULL, x.feed(0L, 1));
                due(60, x.count(4));
            }
        });
        says(10, "THE TAPE, which is empty then, is the TEXT of a USE (0, 1), in place of one ahead: 1.", () -> {
            LeftoverRule x = new LeftoverRule();
            due(1, text(x, CLAIM, "c+1"));
            due(0, x.count(4));
            due(6, x.law(CLAIM, 5, 0, 0));
            due(1, text(x, CLAIM, "2"));
            due(2, x.law(CLAIM, 5, 0, 0));
            due(1, text(x, KEEPING, "f"));
            due(2, x.law(CLAIM, 5, 0, 0));
            due(0, x.law(KEEPING, 0, 0, 0));
        });
        says(10, "BEYOND (THE TAPE stays).", () -> {
            LeftoverRule x = new LeftoverRule();
            feed(x, "c+1");
            for (int use : new int[] {MIN, -1, 2, MAX}) {
                due(BEYOND, x.text(use));
                due(3, x.count(4));
            }
            due(1, x.text(CLAIM));
            due(6, x.law(CLAIM, 5, 0, 0));
        });
        says(10, "-10 less the FAULT (no ERROR; the one ahead stays; THE TAPE is empty, too).", () -> {
            LeftoverRule x = new LeftoverRule();
            due(1, text(x, CLAIM, "c+1"));
            due(-10, x.text(CLAIM));
            due(-13, text(x, CLAIM, "c+2x"));
            due(0, x.count(4));
            due(6, x.law(CLAIM, 5, 0, 0));
            due(-10, text(x, KEEPING, "c"));
            due(1, x.law(KEEPING, 5, 5, 0));
            due(0, x.untell(KEEPING));
            for (int k = 1; k <= 6; k++) {
                due(0, x.told(k));
            }
        });
        says(11, "There is no TEXT of a USE any more: 1 if there was, else 0.", () -> {
            LeftoverRule x = new LeftoverRule();
            for (int use = 0; use < 2; use++) {
                due(0, x.untell(use));
                due(1, text(x, use, "0"));
                due(1, x.untell(use));
                due(0, x.untell(use));
            }
            text(x, CLAIM, "7");
            text(x, KEEPING, "0");
            due(1, x.untell(CLAIM));
            due(5, x.law(CLAIM, 5, 0, 0));
            due(0, x.law(KEEPING, 5, 5, 0));
        });
        says(11, "BEYOND.", () -> {
            LeftoverRule x = new LeftoverRule();
            text(x, CLAIM, "7");
            for (int use : new int[] {MIN, -1, 2, MAX}) {
                due(BEYOND, x.untell(use));
            }
            due(7, x.law(CLAIM, 5, 0, 0));
        });
        says(12, "What a USE gives with its NAMES in order as a, b, c (any number).", () -> {
            LeftoverRule x = new LeftoverRule();
            text(x, CLAIM, "(c=a-1)*100+(s=0-a-1)*10+(c>s)");
            due(110, x.law(CLAIM, MAX, MIN, MAX));
            due(0, x.law(CLAIM, 5, 5, 5));
            text(x, KEEPING, "f=1&r=2&d=3");
            due(1, x.law(KEEPING, 1, 2, 3));
            due(0, x.law(KEEPING, 3, 2, 1));
            text(x, KEEPING, "f+r+d=0-3");
            due(1, x.law(KEEPING, MIN, MAX, -2));
            due(0, x.law(KEEPING, MIN, MAX, 2));
        });
        says(12, "BEYOND.", () -> {
            LeftoverRule x = new LeftoverRule();
            for (int use : new int[] {MIN, -1, 2, MAX}) {
                due(BEYOND, x.law(use, 0, 0, 0));
            }
        });
    }

    private static void mealPromises() {
        says(13, "A MEAL with a hunger (0 .. 99): the hunger that is left.", () -> {
            LeftoverRule x = with(30, 99, 0);
            due(0, x.meal(0));
            sizes(x, 99);
            due(0, x.meal(99));
            sizes(x, 0);
            due(99, x.meal(99));
            due(0, x.meal(0));
        });
        says(13, "BEYOND.", () -> {
            LeftoverRule x = with(30, 99, 0);
            for (int hunger : new int[] {MIN, -1, 100, MAX}) {
                due(BEYOND, x.meal(hunger));
            }
            due(0, x.count(2));
            due(BEYOND, late(9999).meal(100));
        });
        says(13, "STATE: DAY is 9999.", () -> {
            LeftoverRule x = late(9998, 30, 50, 0);
            due(0, x.meal(9));
            due(9999, x.count(2));
            due(STATE, x.meal(9));
            due(STATE, x.meal(0));
            sizes(x, 41);
            due(1, x.dishIs(0, 3));
        });
        says(14, "n (1 .. 60) MEALS of a hunger (0 .. 99): what is left in all.", () -> {
            LeftoverRule x = with(30, 99, 0);
            due(98, x.meals(1, 1));
            due(38, x.meals(60, 1));
            due(61, x.count(2));
            due(38, x.meals(60, 0));
            due(0, x.meals(1, 99));
        });
        says(14, "BEYOND.", () -> {
            LeftoverRule x = with(30, 99, 0);
            for (int n : new int[] {MIN, -1, 0, 61, MAX}) {
                due(BEYOND, x.meals(n, 1));
            }
            for (int hunger : new int[] {MIN, -1, 100, MAX}) {
                due(BEYOND, x.meals(1, hunger));
            }
            due(0, x.count(2));
            LeftoverRule late = late(9999);
            due(BEYOND, late.meals(MAX, 0));
            due(BEYOND, late.meals(0, 0));
            due(BEYOND, late.meals(1, 100));
        });
        says(14, "STATE: DAY would be above 9999.", () -> {
            LeftoverRule x = late(9939);
            due(0, x.meals(60, 0));
            due(9999, x.count(2));
            due(STATE, x.meals(1, 0));
            LeftoverRule y = late(9940, 30, 50, 0);
            due(STATE, y.meals(60, 1));
            due(9940, y.count(2));
            sizes(y, 50);
            due(0, y.meals(59, 1));
            due(9999, y.count(2));
        });
        says(15, "n (1 .. 30) MEALS BY DRAWS: the hunger that was left, of all together.", () -> {
            LeftoverRule x = new LeftoverRule();
            int z = drawn(1);
            due((z >>> 8) % 30, x.loose(1));
            int sum = 0;
            for (int i = 0; i < 30; i++) {
                z = drawn(z);
                sum += (z >>> 8) % 30;
            }
            due(sum, x.loose(30));
            due(z, x.count(7));
            due(31, x.count(2));
        });
        says(15, "BEYOND.", () -> {
            LeftoverRule x = with(0, 50, 0);
            for (int n : new int[] {MIN, -1, 0, 31, MAX}) {
                due(BEYOND, x.loose(n));
            }
            due(1, x.count(7));
            due(0, x.count(2));
            LeftoverRule late = late(9999);
            due(BEYOND, late.loose(31));
            due(BEYOND, late.loose(MAX));
            due(BEYOND, late.loose(0));
        });
        says(15, "STATE: DAY would be above 9999.", () -> {
            LeftoverRule x = late(9969);
            x.loose(30);
            due(9999, x.count(2));
            due(STATE, x.loose(1));
            LeftoverRule y = late(9970, 30, 50, 0);
            due(STATE, y.loose(30));
            due(9970, y.count(2));
            due(1, y.count(7));
            sizes(y, 50);
            y.loose(29);
            due(9999, y.count(2));
        });
        says(16, "z becomes v: what it was (any number).", () -> {
            LeftoverRule x = new LeftoverRule();
            int was = 1;
            for (int v : new int[] {0, -1, MIN, MAX, BEYOND, PARTED, 1}) {
                due(was, x.seed(v));
                due(v, x.count(7));
                was = v;
            }
            due(0, x.told(1));
            due(0, x.told(6));
        });
    }

    private static void thoughtPromises() {
        says(17, "THEN, for n (0 .. 60), a hunger (0 .. 99): what 0 what is left in all, 1 who has THE SAY (-1: nothing is left).", () -> {
            LeftoverRule x = with(30, 90, 0, 30, 9, 0);
            due(99, x.then(0, 99, 0));
            due(99, x.then(60, 0, 0));
            due(39, x.then(60, 1, 0));
            due(0, x.then(1, 99, 0));
            due(-1, x.then(1, 99, 1));
            due(1, x.then(1, 98, 0));
            due(0, x.then(1, 98, 1));
            x.serve(0, 0);
            x.serve(1, 0);
            due(-1, x.then(0, 0, 1));
            due(0, x.then(0, 0, 0));
        });
        says(17, "BEYOND.", () -> {
            LeftoverRule x = with(30, 90, 0);
            for (int n : new int[] {MIN, -1, 61, MAX}) {
                due(BEYOND, x.then(n, 0, 0));
            }
            for (int hunger : new int[] {MIN, -1, 100, MAX}) {
                due(BEYOND, x.then(0, hunger, 0));
            }
            for (int what : new int[] {MIN, -1, 2, MAX}) {
                due(BEYOND, x.then(0, 0, what));
            }
        });
        says(18, "GONE, for a hunger (0 .. 99).", () -> {
            LeftoverRule x = with(30, 99, 0, 20, 9, 9);
            due(1, x.gone(0, 99));
            // The fruit, not in keeping with it, has THE SAY in between.
            due(3, x.gone(0, 98));
            // It spoils 1 at AGES to 4, and 2 behind those: 8, 7, 6, 5, 3, 1, 0.
            due(7, x.gone(1, 0));
        });
        says(18, "BEYOND.", () -> {
            LeftoverRule x = with(30, 0, 0);
            for (int dish : new int[] {MIN, -1, 1, MAX}) {
                due(BEYOND, x.gone(dish, 0));
            }
            for (int hunger : new int[] {MIN, -1, 100, MAX}) {
                due(BEYOND, x.gone(0, hunger));
            }
            due(0, x.gone(0, 0));
            due(0, x.gone(0, 99));
        });
        says(18, "NONE: not by 60.", () -> {
            LeftoverRule x = with(30, 60, 0);
            due(60, x.gone(0, 1));
            x.serve(0, 61);
            due(NONE, x.gone(0, 1));
            due(31, x.gone(0, 2));
        });
        says(19, "NEEDS, for n (0 .. 20).", () -> {
            LeftoverRule x = with(30, 40, 0);
            due(40, x.needs(1));
            due(2, x.needs(20));
            x.serve(0, 41);
            due(3, x.needs(20));
            due(3, x.needs(19));
        });
        says(19, "BEYOND.", () -> {
            LeftoverRule x = new LeftoverRule();
            for (int n : new int[] {MIN, -1, 21, MAX}) {
                due(BEYOND, x.needs(n));
            }
        });
        says(19, "NONE: with none.", () -> {
            LeftoverRule x = with(30, 99, 0, 30, 0, 0);
            due(99, x.needs(1));
            x.serve(1, 1);
            due(NONE, x.needs(1));
            due(NONE, x.needs(0));
            text(x, KEEPING, "0");
            due(NONE, x.needs(20));
        });
        says(20, "CLEARS, for n (0 .. 6), a hunger (0 .. 99): what 0 how many, 1 the set.", () -> {
            LeftoverRule x = with(30, 90, 0, 30, 70, 0, 30, 99, 9);
            due(2, x.clears(1, 0, 0, 0));
            due(5, x.clears(1, 0, 0, 1));
            due(1, x.clears(2, 0, 99, 0));
            due(1, x.clears(2, 0, 99, 1));
            // The least that can be left is enough.
            LeftoverRule one = with(30, 1, 0);
            due(0, one.clears(0, 6, 0, 0));
            due(NONE, one.clears(0, 1, 1, 0));
            one.serve(0, 67);
            due(0, one.clears(0, 6, 11, 0));
            due(0, one.clears(0, 6, 11, 1));
            due(NONE, one.clears(0, 6, 12, 0));
            due(NONE, one.clears(0, 6, 99, 1));
        });
        says(20, "BEYOND.", () -> {
            LeftoverRule x = with(30, 90, 0);
            for (int dish : new int[] {MIN, -1, 1, MAX}) {
                due(BEYOND, x.clears(dish, 0, 0, 0));
            }
            for (int n : new int[] {MIN, -1, 7, MAX}) {
                due(BEYOND, x.clears(0, n, 0, 0));
            }
            for (int hunger : new int[] {MIN, -1, 100, MAX}) {
                due(BEYOND, x.clears(0, 0, hunger, 0));
            }
            for (int what : new int[] {MIN, -1, 2, MAX}) {
                due(BEYOND, x.clears(0, 0, 0, what));
            }
        });
        says(20, "NONE: by no set.", () -> {
            LeftoverRule x = with(30, 0, 0, 30, 9, 0);
            due(NONE, x.clears(0, 0, 0, 0));
            due(NONE, x.clears(0, 0, 0, 1));
            due(0, x.clears(1, 0, 0, 0));
            due(0, x.clears(1, 1, 8, 0));
            due(NONE, x.clears(1, 1, 9, 0));
        });
        says(21, "BRINGS, for a size (1 .. 99): what 0 the FLAVOUR, 1 how much.", () -> {
            LeftoverRule x = with(0, 30, 3);
            due(2, x.brings(1, 0));
            due(31, x.brings(1, 1));
            due(2, x.brings(99, 0));
            due(129, x.brings(99, 1));
        });
        says(21, "BEYOND.", () -> {
            LeftoverRule x = with(0, 30, 3);
            for (int size : new int[] {MIN, -1, 0, 100, MAX}) {
                due(BEYOND, x.brings(size, 0));
            }
            for (int what : new int[] {MIN, -1, 2, MAX}) {
                due(BEYOND, x.brings(1, what));
            }
            due(BEYOND, new LeftoverRule().brings(0, 0));
        });
        says(21, "STATE: nothing is left, or there are 9 DISHES.", () -> {
            LeftoverRule x = new LeftoverRule();
            due(STATE, x.brings(1, 0));
            x.dish(0, 0, 0);
            due(STATE, x.brings(1, 0));
            x.serve(0, 1);
            due(2, x.brings(1, 1));
            for (int i = 1; i < 8; i++) {
                x.dish(0, 1, 0);
            }
            due(9, x.brings(1, 1));
            x.dish(0, 1, 0);
            due(STATE, x.brings(1, 1));
            due(3, x.told(3));
        });
        says(22, "ODDS: part 0 above, 1 below the line.", () -> {
            LeftoverRule x = with(0, 40, 3, 0, 30, 9);
            due(4, x.odds(0));
            due(7, x.odds(1));
        });
        says(22, "BEYOND.", () -> {
            LeftoverRule x = with(0, 40, 3);
            for (int part : new int[] {MIN, -1, 2, MAX}) {
                due(BEYOND, x.odds(part));
                due(BEYOND, new LeftoverRule().odds(part));
            }
        });
        says(22, "STATE: nothing is left.", () -> {
            LeftoverRule x = new LeftoverRule();
            due(STATE, x.odds(0));
            due(STATE, x.odds(1));
            x.dish(0, 0, 0);
            due(STATE, x.odds(0));
            x.serve(0, 1);
            due(1, x.odds(0));
        });
        says(23, "BEYOND.", () -> {
            LeftoverRule x = with(0, 40, 3);
            for (int sheet : new int[] {MIN, -1, 4, MAX}) {
                due(BEYOND, x.fits(sheet, 0));
            }
            for (int what : new int[] {MIN, -1, 2, MAX}) {
                due(BEYOND, x.fits(0, what));
            }
            lay(x, 3, 32, 40);
            due(1, x.fits(3, 0));
            due(BEYOND, x.fits(3, 2));
        });
        says(23, "NONE: the SHEET is missing; (what 1) there is none.", () -> {
            LeftoverRule x = with(30, 40, 3);
            due(NONE, x.fits(0, 0));
            due(NONE, x.fits(0, 1));
            lay(x, 0, 8, 41);
            due(0, x.fits(0, 0));
            due(NONE, x.fits(0, 1));
            due(3, x.told(2));
            x.sheet(0, 0, 0);
            due(NONE, x.fits(0, 0));
            lay(x, 0, 8, 40 + 256);
            due(1, x.fits(0, 0));
            lay(x, 0, 16, 40 + 256);
            due(0, x.fits(0, 0));
        });
    }

    private static void voicePromises() {
        says(24, "A VOICE of a DISH: any number.", () -> {
            LeftoverRule x = with(0, 1, 1);
            for (int v : new int[] {MIN, MAX, BEYOND, PARTED, 0}) {
                due(v, x.voice(0, 0, v));
            }
            for (int k = 1; k <= 6; k++) {
                due(0, x.told(k));
            }
        });
        says(24, "BEYOND.", () -> {
            LeftoverRule x = with(9, 1, 1);
            for (int dish : new int[] {MIN, -1, 1, MAX}) {
                due(BEYOND, x.voice(dish, 0, 0));
            }
            for (int voice : new int[] {MIN, -1, 4, MAX}) {
                due(BEYOND, x.voice(0, voice, 0));
            }
            due(0, x.voice(0, 3, 8));
            due(1, x.voice(0, 3, 9));
        });
        says(24, "PARTED.", () -> {
            LeftoverRule x = with(0, 1, 1, 1, 1, 1);
            due(PARTED, x.voice(0, 3, 7));
            due(PARTED, x.voice(1, 3, 7));
            due(7, x.voice(0, 0, 7));
            x.become(0, 1);
            due(7, x.voice(0, 3, 7));
            due(2, x.told(6));
        });
        says(25, "NONE: there is none such.", () -> {
            LeftoverRule x = with(0, 1, 1);
            due(NONE, x.body(0));
            x.voice(0, 2, 7);
            int[] bodies = {12, 11, 10};
            for (int i = 0; i < 3; i++) {
                due(bodies[i], x.body(i));
            }
            for (int i : new int[] {MIN, -1, 3, 29, 30, MAX}) {
                due(NONE, x.body(i));
            }
            x.voice(0, 0, 7);
            due(10, x.body(0));
            due(NONE, x.body(1));
        });
    }

    private static void sheetPromises() {
        says(26, "A SHEET has n numbers, all 0, of so many bits (8, 16, 32; 0: it is missing, n doesn't matter): 1.", () -> {
            LeftoverRule x = with(0, 5, 0, 0, 5, 0);
            lay(x, 0, 8, 7, 7);
            due(1, x.sheet(0, 8, 2));
            due(2, x.serves(0));
            due(0, x.count(1));
            due(1, x.sheet(0, 16, 0));
            due(0, x.serves(0));
            due(BEYOND, x.put(0, 0, 0));
            for (int n : new int[] {MIN, -1, 0, 24, 25, MAX}) {
                lay(x, 0, 8, 7);
                due(1, x.sheet(0, 0, n));
                due(NONE, x.serves(0));
            }
            // What was there is not there again.
            lay(x, 1, 32, 9, 9, 9);
            x.sheet(1, 0, 0);
            x.sheet(1, 32, 2);
            x.serve(0, 5);
            due(2, x.serves(1));
            due(0, x.count(1));
        });
        says(26, "BEYOND.", () -> {
            LeftoverRule x = new LeftoverRule();
            for (int sheet : new int[] {MIN, -1, 4, MAX}) {
                due(BEYOND, x.sheet(sheet, 8, 1));
                due(BEYOND, x.sheet(sheet, 0, 1));
            }
            for (int bits : new int[] {MIN, -8, -1, 1, 7, 9, 15, 17, 24, 31, 33, 64, MAX}) {
                due(BEYOND, x.sheet(0, bits, 1));
            }
            due(1, x.sheet(0, 8, 24));
            due(BEYOND, x.sheet(0, 8, 25));
            due(BEYOND, x.sheet(0, 16, MAX));
            due(BEYOND, x.sheet(0, 32, 25));
            due(1, x.put(0, 23, 1));
        });
        says(26, "STATE: n is below 0 (ahead of BEYOND of n).", () -> {
            LeftoverRule x = new LeftoverRule();
            for (int bits = 8; bits <= 32; bits *= 2) {
                due(STATE, x.sheet(0, bits, -1));
                due(STATE, x.sheet(0, bits, MIN));
            }
            due(BEYOND, x.sheet(4, 8, -1));
            due(BEYOND, x.sheet(0, 7, -1));
            due(NONE, x.serves(0));
            due(6, x.told(3));
        });
        says(27, "Number i of a SHEET becomes v (its lowest bits): 1.", () -> {
            LeftoverRule x = with(0, 1, 0);
            int[][] bitsPutSize = {{8, 256 + 7, 7}, {8, -256 + 7, 7}, {8, MIN + 7, 7}, {16, 65536 + 7, 7}, {16, -65536 + 7, 7},
                {16, MIN + 99, 99}, {32, 7, 7}};
            for (int[] each : bitsPutSize) {
                x.sheet(0, each[0], 1);
                due(1, x.put(0, 0, each[1]));
                due(1, x.serves(0));
                sizes(x, each[2]);
            }
            int[][] notSizes = {{8, 255}, {8, -1}, {8, 128}, {16, 256 + 7}, {16, -1}, {16, 32768}, {32, 65536 + 7}, {32, MIN}, {32, MAX}};
            for (int[] each : notSizes) {
                x.sheet(0, each[0], 1);
                due(1, x.put(0, 0, each[1]));
                due(0, x.serves(0));
                sizes(x, 7);
            }
            // Numbers have a sign, of 8 bits and of 16 as of 32.
            text(x, CLAIM, "255");
            lay(x, 0, 8, 255);
            due(0, x.judge(0));
            lay(x, 0, 16, 255);
            due(1, x.judge(0));
        });
        says(27, "BEYOND: no such SHEET. NONE: it is missing. BEYOND: no such number.", () -> {
            LeftoverRule x = new LeftoverRule();
            for (int sheet : new int[] {MIN, -1, 4, MAX}) {
                due(BEYOND, x.put(sheet, 0, 0));
                due(BEYOND, x.put(sheet, -1, 0));
            }
            due(NONE, x.put(0, 0, 0));
            due(NONE, x.put(0, -1, 0));
            due(NONE, x.put(3, MAX, 0));
            x.sheet(0, 8, 2);
            due(1, x.put(0, 0, 0));
            due(1, x.put(0, 1, 0));
            for (int i : new int[] {MIN, -1, 2, 24, MAX}) {
                due(BEYOND, x.put(0, i, 0));
            }
            x.sheet(0, 8, 0);
            due(BEYOND, x.put(0, 0, 0));
        });
        says(28, "n numbers of a SHEET, from number i on, come to another one (or the same), from its number j on, as they all were: n.", () -> {
            LeftoverRule x = with(0, 0, 0, 0, 0, 0, 0, 0, 0, 0, 0, 0);
            lay(x, 0, 8, 1, 2, 3, 4);
            lay(x, 1, 8, 5, 6, 7, 8);
            due(4, x.move(0, 0, 1, 0, 4));
            x.serves(1);
            sizes(x, 1, 2, 3, 4);
            lay(x, 1, 8, 5, 6, 7, 8);
            due(1, x.move(0, 3, 1, 0, 1));
            due(0, x.move(0, 4, 1, 4, 0));
            due(0, x.move(0, 0, 1, 0, 0));
            x.serves(1);
            sizes(x, 4, 6, 7, 8);
            due(3, x.move(0, 0, 0, 1, 3));
            x.serves(0);
            sizes(x, 1, 1, 2, 3);
            due(3, x.move(0, 1, 0, 0, 3));
            x.serves(0);
            sizes(x, 1, 2, 3, 3);
            due(4, x.move(0, 0, 0, 0, 4));
            x.serves(0);
            sizes(x, 1, 2, 3, 3);
        });
        says(28, "BEYOND: no such SHEET.", () -> {
            LeftoverRule x = new LeftoverRule();
            x.sheet(0, 8, 2);
            for (int sheet : new int[] {MIN, -1, 4, MAX}) {
                due(BEYOND, x.move(sheet, 0, 0, 0, 1));
                due(BEYOND, x.move(0, 0, sheet, 0, 1));
                due(BEYOND, x.move(sheet, 0, 1, 0, 1));
                due(BEYOND, x.move(1, 0, sheet, 0, 1));
            }
        });
        says(28, "NONE: one is missing.", () -> {
            LeftoverRule x = new LeftoverRule();
            x.sheet(0, 8, 2);
            due(NONE, x.move(0, 0, 1, 0, 1));
            due(NONE, x.move(1, 0, 0, 0, 1));
            due(NONE, x.move(1, 0, 1, 0, 0));
            due(NONE, x.move(0, 0, 1, 0, -1));
            due(NONE, x.move(1, MIN, 0, MAX, MIN));
        });
        says(28, "KIND: they are of unlike bits.", () -> {
            LeftoverRule x = new LeftoverRule();
            int[] bits = {8, 16, 32};
            for (int i = 0; i < 3; i++) {
                x.sheet(i, bits[i], 2);
            }
            for (int i = 0; i < 3; i++) {
                for (int j = 0; j < 3; j++) {
                    due(i == j ? 1 : KIND, x.move(i, 0, j, 0, 1));
                    due(i == j ? BEYOND : KIND, x.move(i, 0, j, 0, -1));
                    due(i == j ? BEYOND : KIND, x.move(i, 3, j, 0, 0));
                }
            }
        });
        says(28, "BEYOND: n, i, or j is below 0, or they don't stand there.", () -> {
            LeftoverRule x = new LeftoverRule();
            x.sheet(0, 16, 3);
            x.sheet(1, 16, 2);
            for (int below : new int[] {MIN, -1}) {
                due(BEYOND, x.move(0, 0, 1, 0, below));
                due(BEYOND, x.move(0, below, 1, 0, 1));
                due(BEYOND, x.move(0, 0, 1, below, 1));
                due(BEYOND, x.move(0, below, 1, 0, 0));
                due(BEYOND, x.move(0, 0, 1, below, 0));
            }
            due(2, x.move(0, 0, 1, 0, 2));
            due(2, x.move(0, 1, 1, 0, 2));
            due(BEYOND, x.move(0, 0, 1, 0, 3));
            due(BEYOND, x.move(0, 2, 1, 0, 2));
            due(BEYOND, x.move(1, 0, 0, 0, 3));
            due(BEYOND, x.move(1, 0, 0, 2, 2));
            due(2, x.move(1, 0, 0, 1, 2));
            due(0, x.move(0, 3, 1, 2, 0));
            due(BEYOND, x.move(0, 4, 1, 2, 0));
            due(BEYOND, x.move(0, 3, 1, 3, 0));
            // Sums that would wrap.
            due(BEYOND, x.move(0, MAX, 1, 0, 1));
            due(BEYOND, x.move(0, 0, 1, MAX, 1));
            due(BEYOND, x.move(0, 1, 1, 0, MAX));
            due(BEYOND, x.move(0, 1, 0, 1, MAX));
            due(BEYOND, x.move(0, MAX, 1, MAX, MAX));
        });
        says(29, "Numbers of a SHEET become SIZES of DISHES 0, 1, ..: how many, up to the first that is not 0 to 99 (no ERROR then), or for which there is no DISH.", () -> {
            LeftoverRule x = with(0, 1, 0, 0, 2, 0, 0, 3, 0);
            lay(x, 0, 16, 0, 99);
            due(2, x.serves(0));
            sizes(x, 0, 99, 3);
            lay(x, 0, 16, 5, 100, 6);
            due(1, x.serves(0));
            sizes(x, 5, 99, 3);
            lay(x, 0, 16, 4, 7, -1);
            due(2, x.serves(0));
            sizes(x, 4, 7, 3);
            lay(x, 0, 16, -1, 9, 9);
            due(0, x.serves(0));
            sizes(x, 4, 7, 3);
            lay(x, 0, 16, 1, 2, 3, 4);
            due(3, x.serves(0));
            sizes(x, 1, 2, 3);
            due(3, x.count(0));
            lay(x, 0, 16);
            due(0, x.serves(0));
            due(0, x.told(1));
            LeftoverRule none = new LeftoverRule();
            lay(none, 0, 8, 1);
            due(0, none.serves(0));
            LeftoverRule nine = with(0, 1, 0, 0, 1, 0, 0, 1, 0, 0, 1, 0, 0, 1, 0, 0, 1, 0, 0, 1, 0, 0, 1, 0, 0, 1, 0);
            nine.sheet(0, 8, 24);
            due(9, nine.serves(0));
            due(0, nine.count(1));
        });
        says(29, "BEYOND: no such SHEET. NONE: it is missing.", () -> {
            LeftoverRule x = with(0, 1, 0);
            for (int sheet : new int[] {MIN, -1, 4, MAX}) {
                due(BEYOND, x.serves(sheet));
            }
            for (int sheet = 0; sheet < 4; sheet++) {
                due(NONE, x.serves(sheet));
            }
            sizes(x, 1);
        });
        says(30, "Numbers of a SHEET are what DISHES 0, 1, .. CLAIM: how many are right, from the first on.", () -> {
            LeftoverRule x = with(19, 30, 0, 50, 20, 0, 69, 0, 9);
            lay(x, 0, 16, 12, 44, 0);
            due(3, x.judge(0));
            lay(x, 0, 16, 12, 44, 0, 0);
            due(3, x.judge(0));
            lay(x, 0, 16, 12, 44);
            due(2, x.judge(0));
            lay(x, 0, 16, 12, 45, 0);
            due(1, x.judge(0));
            lay(x, 0, 16, 11, 44, 0);
            due(0, x.judge(0));
            lay(x, 0, 16);
            due(0, x.judge(0));
            LeftoverRule none = new LeftoverRule();
            lay(none, 0, 8, 0);
            due(0, none.judge(0));
            text(x, CLAIM, "c*1000");
            lay(x, 0, 16, 999, 999, 0);
            due(3, x.judge(0));
        });
        says(30, "BEYOND: no such SHEET. NONE: it is missing.", () -> {
            LeftoverRule x = with(0, 1, 0);
            for (int sheet : new int[] {MIN, -1, 4, MAX}) {
                due(BEYOND, x.judge(sheet));
            }
            for (int sheet = 0; sheet < 4; sheet++) {
                due(NONE, x.judge(sheet));
            }
        });
    }

    private static void imagePromises() {
        says(31, "All (but SHEETS, THE TRACE, what told() tells, and how often this was done) is kept as an IMAGE, in place of one ahead: how often that was done.", () -> {
            LeftoverRule x = with(14, 20, 2);
            text(x, CLAIM, "c+7");
            text(x, KEEPING, "f=r");
            feed(x, "1+");
            x.tell(1);
            x.seed(99);
            x.meals(1, 2);
            due(1, x.image());
            // Everything is another then.
            x.become(0, 55);
            x.serve(0, 3);
            x.season(0, 9);
            x.dish(1, 1, 1);
            text(x, CLAIM, "9");
            x.untell(CLAIM);
            x.untell(KEEPING);
            feed(x, "777");
            x.check();
            x.tell(5);
            x.tell(6);
            x.seed(5);
            x.meals(7, 60);
            lay(x, 1, 8, 33);
            x.voice(0, 0, 1);
            due(NONE, x.body(1));
            due(1, x.restore());
            due(1, x.count(0));
            due(1, x.dishIs(0, 0));
            due(4, x.dishIs(0, 1));
            due(18, x.dishIs(0, 2));
            due(1, x.dishIs(0, 3));
            due(2, x.dishIs(0, 4));
            due(1, x.count(2));
            due(0, x.count(3));
            due(2, x.count(4));
            due(1, x.count(5));
            due(99, x.count(7));
            due(12, x.law(CLAIM, 5, 0, 0));
            due(0, x.law(KEEPING, 5, 4, 0));
            due(0, x.check());
            feed(x, "4");
            due(1, x.text(CLAIM));
            due(5, x.law(CLAIM, 0, 0, 0));
            // But not these.
            trace(x, 10);
            due(1, x.told(2));
            due(1, x.serves(1));
            sizes(x, 33);
            // In place of the one ahead.
            due(2, x.image());
            x.serve(0, 1);
            due(1, x.restore());
            sizes(x, 33);
            due(3, x.image());
        });
        says(32, "All is as the IMAGE has it, which stays: DAY.", () -> {
            LeftoverRule x = late(9999);
            x.image();
            due(9999, x.restore());
            LeftoverRule y = new LeftoverRule();
            y.image();
            y.dish(0, 9, 0);
            text(y, CLAIM, "7");
            y.meals(3, 1);
            for (int i = 0; i < 3; i++) {
                due(0, y.restore());
                due(0, y.count(0));
                due(0, y.count(2));
                due(5, y.law(CLAIM, 5, 0, 0));
                due(0, y.dish(0, 9, 0));
                due(0, y.dishIs(0, 3));
                y.meal(1);
            }
        });
        says(32, "NONE: there is none.", () -> {
            LeftoverRule x = with(0, 9, 0);
            due(NONE, x.restore());
            due(1, x.count(0));
            due(1, x.image());
            due(0, x.restore());
            due(1, x.told(2));
        });
    }

    private static void toldPromises() {
        says(33, "One more number waits: how many.", () -> {
            LeftoverRule x = with(0, 9, 0);
            due(1, x.tell(MIN));
            due(2, x.tell(MAX));
            due(1, x.check());
            due(1, x.tell(0));
            due(0, x.check());
        });
        says(33, "FULL: 24 wait.", () -> {
            LeftoverRule x = new LeftoverRule();
            for (int i = 1; i <= 24; i++) {
                due(i, x.tell(i));
            }
            due(FULL, x.tell(25));
            due(24, x.count(5));
            due(1, x.check());
            due(1, x.tell(25));
        });
        says(34, "The numbers that wait (none do then) are AGES of DISHES 0, 1, ..: 0; else 1 and the place (from 0) of the first that isn't so (or for which there is no DISH).", () -> {
            LeftoverRule x = new LeftoverRule();
            due(0, x.check());
            x.tell(0);
            due(1, x.check());
            due(0, x.count(5));
            due(0, x.check());
            for (int i = 0; i < 9; i++) {
                x.dish(30, 1, 0);
            }
            x.meals(4, 0);
            for (int many = 1; many <= 12; many++) {
                for (int i = 0; i < many; i++) {
                    x.tell(4);
                }
                due(many <= 9 ? 0 : 10, x.check());
                due(0, x.count(5));
            }
            for (int place = 0; place < 9; place++) {
                for (int i = 0; i < 9; i++) {
                    x.tell(i >= place && i % 2 == place % 2 ? 5 : 4);
                }
                due(1 + place, x.check());
            }
            x.tell(-4);
            due(1, x.check());
        });
        says(35, "6 BODIES in THE TRACE, 7 z (any number).", () -> {
            LeftoverRule x = new LeftoverRule();
            for (int v : new int[] {MIN, MAX, BEYOND, PARTED}) {
                x.seed(v);
                due(v, x.count(7));
            }
            due(0, x.told(1));
            LeftoverRule nine = new LeftoverRule();
            for (int i = 0; i < 9; i++) {
                nine.dish(30, 99, 0);
            }
            due(891, nine.count(1));
            due(9, nine.count(0));
            due(0, nine.count(6));
            nine.voice(0, 2, 1);
            due(4, nine.count(6));
        });
        says(35, "BEYOND.", () -> {
            LeftoverRule x = new LeftoverRule();
            for (int what : new int[] {MIN, -1, 8, MAX}) {
                due(BEYOND, x.count(what));
            }
        });
        says(36, "How many acts have answered an ERROR LOW - k (k 1 .. 6); BEYOND: another k (counted, too).", () -> {
            LeftoverRule x = new LeftoverRule();
            int beyond = 0;
            for (int k : new int[] {MIN, -1, 0, 7, MAX}) {
                due(beyond, x.told(1));
                due(BEYOND, x.told(k));
                beyond++;
                due(beyond, x.told(1));
            }
            for (int k = 2; k <= 6; k++) {
                due(0, x.told(k));
            }
            x.rules();
            due(1, x.told(2));
            x.odds(0);
            due(1, x.told(3));
            for (int i = 0; i < 26; i++) {
                x.tell(0);
            }
            due(2, x.told(4));
            x.dish(0, 1, 0);
            x.as(0, 1);
            due(1, x.told(5));
            x.voice(0, 3, 1);
            due(1, x.told(6));
            due(beyond, x.told(1));
        });
    }
}
