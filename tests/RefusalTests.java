import java.lang.reflect.Method;
import java.util.ArrayList;
import java.util.Arrays;
import java.util.HashMap;
import java.util.List;
import java.util.Map;
import java.util.Set;

/**
 * Every call with the edges of all its arguments, in some states of the house: none ends by an exception; what is
 * out of its range is BEYOND; an ERROR is told, and beside that changes nothing; what only asks changes nothing.
 * To see what has changed, the same questions are put to a twin to which the call was not made.
 */
public final class RefusalTests {
    private static final int LOW = -1000000000;
    private static final int BEYOND = 1;
    private static final int MIN = Integer.MIN_VALUE;
    private static final int MAX = Integer.MAX_VALUE;

    /** A call, and the ranges of its arguments; * is any number. */
    private static final String[] CALLS = {
        "dish 0..69 0..99 0..9", "dishIs 0..8 0..7", "become 0..8 0..69", "as 0..8 0..6", "serve 0..8 0..99",
        "season 0..8 0..9", "rules", "feed * 1..8", "text 0..1", "untell 0..1", "law 0..1 * * *", "meal 0..99",
        "meals 1..60 0..99", "loose 1..30", "seed *", "then 0..60 0..99 0..1", "gone 0..8 0..99", "needs 0..20",
        "clears 0..8 0..6 0..99 0..1", "brings 1..99 0..1", "odds 0..1", "fits 0..3 0..1", "voice 0..8 0..3 *",
        "body *", "sheet 0..3 8..8 0..24", "sheet 0..3 16..16 0..24", "sheet 0..3 32..32 0..24", "sheet 0..3 0..0 *",
        "put 0..3 0..23 *", "move 0..3 0..23 0..3 0..23 0..24", "serves 0..3", "judge 0..3", "image", "restore",
        "tell *", "check", "count 0..7", "told 1..6"};
    private static final Set<String> ONLY_ASK = Set.of("dishIs", "as", "rules", "law", "then", "gone", "needs", "clears",
        "brings", "odds", "fits", "body", "judge", "count", "told");
    /** Calls that answer another ERROR ahead of a BEYOND. */
    private static final Set<String> OTHER_FIRST = Set.of("sheet", "put", "move");
    private static final String[] STATES = {"new", "full", "gone", "late"};

    private static final Map<String, Method> METHODS = new HashMap<>();
    private static int asked = 0;
    private static int wrong = 0;

    public static void main(String[] args) throws Exception {
        for (Method method : LeftoverRule.class.getDeclaredMethods()) {
            METHODS.put(method.getName(), method);
        }
        for (String state : STATES) {
            LeftoverRule twin = house(state);
            int[] told = told(twin);
            List<Integer> answers = answers(twin);
            for (String call : CALLS) {
                sweep(state, call.split(" "), told, answers);
            }
        }
        System.out.println(asked + " calls with the edges of their arguments, " + wrong + " not as due");
        if (wrong != 0) {
            System.exit(1);
        }
    }

    private static void need(boolean so, String state, String[] call, int[] arguments, String what) {
        if (!so) {
            wrong++;
            if (wrong <= 40) {
                System.out.println(state + " house, " + call[0] + Arrays.toString(arguments) + ": " + what);
            }
        }
    }

    // ---- states

    private static void type(LeftoverRule x, String text) {
        for (int i = 0; i < text.length(); i++) {
            x.feed(text.charAt(i), 1);
        }
    }

    private static LeftoverRule house(String state) {
        LeftoverRule x = new LeftoverRule();
        switch (state) {
            case "full":
                for (int i = 0; i < 9; i++) {
                    x.dish(10 * (i % 7) + i, 90 - 9 * i, i);
                }
                type(x, "c+a");
                x.text(0);
                type(x, "f<r+3&f>r-4");
                x.text(1);
                x.seed(-77);
                x.tell(5);
                x.image();
                x.meals(2, 7);
                sheets(x);
                type(x, "s*0012");
                for (int i = 0; i < 54; i++) {
                    x.feed('1', 1);
                }
                for (int i = 1; i < 24; i++) {
                    x.tell(i % 3);
                }
                x.voice(1, 3, 50);
                break;
            case "gone":
                x.dish(5, 9, 1);
                x.dish(62, 9, 2);
                x.dish(33, 0, 3);
                x.meals(2, 60);
                type(x, "0-c");
                x.text(0);
                type(x, "c+");
                x.tell(0);
                sheets(x);
                x.voice(1, 2, 5);
                break;
            case "late":
                for (int i = 0; i < 166; i++) {
                    x.meals(60, 60);
                }
                x.meals(39, 60);
                x.dish(17, 60, 4);
                x.dish(36, 50, 5);
                x.image();
                x.tell(0);
                x.tell(0);
                x.voice(0, 1, 5);
                break;
            default:
        }
        return x;
    }

    private static void sheets(LeftoverRule x) {
        x.sheet(0, 8, 9);
        x.sheet(1, 8, 3);
        x.sheet(2, 32, 24);
        for (int i = 0; i < 24; i++) {
            x.put(0, i, 40 + i);
            x.put(1, i, 70 + i);
            x.put(2, i, 10 + i);
        }
    }

    // ---- what can be seen of a house

    private static int[] told(LeftoverRule x) {
        int[] told = new int[7];
        for (int k = 1; k <= 6; k++) {
            told[k] = x.told(k);
        }
        return told;
    }

    /** All else; the house is another one then. */
    private static List<Integer> answers(LeftoverRule x) {
        List<Integer> all = new ArrayList<>();
        addDishesAndLaws(x, all);
        for (int i = 0; i < 8; i++) {
            all.add(x.body(i));
        }
        all.add(x.check());
        all.add(x.text(0));
        all.add(x.law(0, 5, 6, 7));
        type(x, "1");
        all.add(x.text(0));
        for (int sheet = 0; sheet < 4; sheet++) {
            all.add(x.serves(sheet));
            for (int i = 0; i < 9; i++) {
                all.add(x.dishIs(i, 2));
            }
            for (int other = 0; other < 4; other++) {
                all.add(x.move(sheet, 0, other, 0, 0));
            }
            for (int i : new int[] {2, 3, 8, 9, 23}) {
                all.add(x.put(sheet, i, 1));
            }
        }
        all.add(x.restore());
        addDishesAndLaws(x, all);
        all.add(x.check());
        all.add(x.image());
        return all;
    }

    private static void addDishesAndLaws(LeftoverRule x, List<Integer> all) {
        for (int what = 0; what < 8; what++) {
            all.add(x.count(what));
            for (int i = 0; i < 9; i++) {
                all.add(x.dishIs(i, what));
            }
        }
        for (int use = 0; use < 2; use++) {
            all.add(x.law(use, 5, 6, 7));
            all.add(x.law(use, 2, 4, 1));
            all.add(x.law(use, -9, 0, 0));
        }
    }

    // ---- the sweep

    private static boolean isRange(String range) {
        return !range.equals("*");
    }

    private static int least(String range) {
        return Integer.parseInt(range.substring(0, range.indexOf('.')));
    }

    private static int most(String range) {
        return Integer.parseInt(range.substring(range.lastIndexOf('.') + 1));
    }

    private static int[] edges(String range) {
        if (!isRange(range)) {
            return new int[] {MIN, -1, 0, 1, MAX};
        }
        int least = least(range);
        int most = most(range);
        return least == most ? new int[] {least} : new int[] {MIN, least - 1, least, most, most + 1, MAX};
    }

    private static boolean isBeyond(String[] call, int[] arguments) {
        for (int i = 0; i < arguments.length; i++) {
            String range = call[i + 1];
            if (isRange(range) && (arguments[i] < least(range) || arguments[i] > most(range))) {
                return true;
            }
        }
        return false;
    }

    private static void sweep(String state, String[] call, int[] told, List<Integer> answers) throws Exception {
        int many = call.length - 1;
        int[][] edges = new int[many][];
        int all = 1;
        for (int i = 0; i < many; i++) {
            edges[i] = edges(call[i + 1]);
            all *= edges[i].length;
        }
        for (int each = 0; each < all; each++) {
            int[] arguments = new int[many];
            int rest = each;
            for (int i = 0; i < many; i++) {
                arguments[i] = edges[i][rest % edges[i].length];
                rest /= edges[i].length;
            }
            // A late house is dear to make, and its sheets are like a new one's.
            if (!call[0].equals("move") || !state.equals("late")) {
                one(state, call, arguments, told, answers);
            }
        }
    }

    private static void one(String state, String[] call, int[] arguments, int[] told, List<Integer> answers) throws Exception {
        asked++;
        LeftoverRule x = house(state);
        Object[] with = new Object[arguments.length];
        for (int i = 0; i < with.length; i++) {
            with[i] = call[0].equals("feed") && i == 0 ? (Object) (long) arguments[i] : (Object) arguments[i];
        }
        int answer;
        try {
            answer = (int) METHODS.get(call[0]).invoke(x, with);
        } catch (java.lang.reflect.InvocationTargetException e) {
            need(false, state, call, arguments, "threw " + e.getCause());
            return;
        }
        // The numbers that seed, voice and count(7) answer here are no ERRORS' ones, if they are none.
        int error = answer < LOW && answer >= LOW - 6 ? LOW - answer : 0;
        if (isBeyond(call, arguments)) {
            need(OTHER_FIRST.contains(call[0]) ? error > 0 : error == BEYOND, state, call, arguments, "answered " + answer);
        }
        int[] toldNow = told(x);
        for (int k = 1; k <= 6; k++) {
            need(toldNow[k] == told[k] + (k == error ? 1 : 0), state, call, arguments, "told(" + k + ") is " + toldNow[k]);
        }
        boolean began = call[0].equals("voice") && error != BEYOND;
        if ((error > 0 || ONLY_ASK.contains(call[0])) && !began) {
            need(answers(x).equals(answers), state, call, arguments, "answered " + answer + " and changed something");
        }
    }
}
