import java.util.ArrayDeque;
import java.util.ArrayList;
import java.util.Arrays;
import java.util.Comparator;
import java.util.Deque;
import java.util.List;

/**
 * Runs of drawn calls (the same ones every time) on a LeftoverRule and on a second, plainer reading of the
 * document, which stands below; every answer must be the same.
 */
public final class ModelRuns {
    private static final int RUNS = 1500;
    private static final int CALLS = 512;
    private static final String[] CALL = {"dish", "dishIs", "become", "as", "serve", "season", "rules", "feed", "text",
        "untell", "law", "meal", "meals", "loose", "seed", "then", "gone", "needs", "clears", "brings", "odds", "fits",
        "voice", "body", "sheet", "put", "move", "serves", "judge", "image", "restore", "tell", "check", "count", "told"};
    /** How often each call is drawn: those that simulate most, less. */
    private static final int[] WEIGHT = {6, 14, 4, 4, 6, 4, 6, 0, 16, 1, 8, 8, 4, 4, 2, 5, 4, 1, 2, 5, 6, 6,
        10, 6, 5, 14, 5, 4, 5, 2, 2, 5, 4, 9, 4};

    private static long state = 20261118;
    private static int wrong = 0;

    public static void main(String[] args) {
        long asked = 0;
        for (int run = 0; run < RUNS && wrong < 10; run++) {
            asked += run(run);
        }
        System.out.println(asked + " answers compared, " + wrong + " runs went apart");
        if (wrong != 0) {
            System.exit(1);
        }
    }

    private static int draw(int below) {
        state = state * 6364136223846793005L + 1442695040888963407L;
        return (int) ((state >>> 33) % below);
    }

    private static int run(int run) {
        LeftoverRule program = new LeftoverRule();
        Model model = new Model();
        List<String> log = new ArrayList<>();
        int calls = 0;
        while (calls < CALLS) {
            int op = drawCall();
            if (CALL[op].equals("text") && draw(8) > 0) {
                String text = drawText(model);
                for (int i = 0; i < text.length(); i += 8) {
                    int n = Math.min(8, text.length() - i);
                    long word = 0;
                    for (int j = 0; j < n; j++) {
                        word |= (long) text.charAt(i + j) << (8 * j);
                    }
                    calls++;
                    if (!same(run, log, program, model, 7, new long[] {word, n})) {
                        return calls;
                    }
                }
                log.add("(" + text + ")");
            }
            long[] with = drawArguments(op, model);
            calls++;
            if (!same(run, log, program, model, op, with)) {
                return calls;
            }
        }
        return calls;
    }

    private static boolean same(int run, List<String> log, LeftoverRule program, Model model, int op, long[] a) {
        long got = ask(program, op, a);
        long due = model.ask(CALL[op], a);
        log.add(CALL[op] + Arrays.toString(a) + " = " + got);
        if (got == due) {
            return true;
        }
        wrong++;
        System.out.println("run " + run + ", call " + log.size() + ": due is " + due + "; the calls:");
        for (int i = Math.max(0, log.size() - 40); i < log.size(); i++) {
            System.out.println("  " + log.get(i));
        }
        return false;
    }

    private static int drawCall() {
        int all = 0;
        for (int weight : WEIGHT) {
            all += weight;
        }
        int at = draw(all);
        for (int op = 0; op < WEIGHT.length; op++) {
            at -= WEIGHT[op];
            if (at < 0) {
                return op;
            }
        }
        return 0;
    }

    /** Mostly from least to most; now and then a little or far outside. */
    private static int about(int least, int most) {
        switch (draw(40)) {
            case 0: return least - 1;
            case 1: return most + 1;
            case 2: return draw(4) == 0 ? (draw(2) == 0 ? Integer.MIN_VALUE : Integer.MAX_VALUE) : least;
            case 3: return most;
            default: return least + draw(most - least + 1);
        }
    }

    private static int anyNumber() {
        switch (draw(8)) {
            case 0: return Integer.MIN_VALUE + draw(3);
            case 1: return Integer.MAX_VALUE - draw(3);
            case 2: return draw(1 << 30) - (1 << 29);
            case 3: return -1000000000 - draw(8);
            default: return draw(60) - 20;
        }
    }

    private static int aDish(Model model) {
        return model.dishes.isEmpty() ? about(0, 1) : about(0, model.dishes.size() - 1);
    }

    /** A number that a sheet may well tell: what is so of dish i, or nearly. */
    private static int aSheetNumber(Model model, int i) {
        if (i < 0 || i >= model.dishes.size() || draw(5) == 0) {
            return draw(3) == 0 ? anyNumber() : about(0, 99);
        }
        Model.Dish dish = model.dishes.get(i);
        switch (draw(4)) {
            case 0: return dish.size;
            case 1: return model.claim(dish);
            case 2: return 0;
            default: return Math.max(0, dish.size - draw(8));
        }
    }

    private static long[] drawArguments(int op, Model model) {
        int i = about(0, 8);
        switch (CALL[op]) {
            case "dish": return new long[] {about(0, 69), about(0, 99), about(0, 9)};
            case "dishIs": return new long[] {aDish(model), about(0, 7)};
            case "become": return new long[] {aDish(model), about(0, 69)};
            case "as": return new long[] {aDish(model), about(0, 6)};
            case "serve": return new long[] {aDish(model), draw(4) == 0 ? 0 : about(0, 99)};
            case "season": return new long[] {aDish(model), about(0, 9)};
            case "text": return new long[] {model.intended >= 0 && draw(9) > 0 ? model.intended : about(0, 1)};
            case "untell": return new long[] {about(0, 1)};
            case "law": return new long[] {about(0, 1), anyNumber(), anyNumber(), anyNumber()};
            case "meal": return new long[] {draw(3) > 0 ? draw(20) : about(0, 99)};
            case "meals": return new long[] {draw(3) > 0 ? 1 + draw(4) : about(1, 60), draw(3) > 0 ? draw(9) : about(0, 99)};
            case "loose": return new long[] {about(1, 30)};
            case "seed": return new long[] {anyNumber()};
            case "then": return new long[] {about(0, 60), draw(2) > 0 ? draw(9) : about(0, 99), about(0, 1)};
            case "gone": return new long[] {aDish(model), draw(2) > 0 ? draw(9) : about(0, 99)};
            case "needs": return new long[] {about(0, 20)};
            case "clears": return new long[] {aDish(model), about(0, 6), draw(2) > 0 ? draw(15) : about(0, 99), about(0, 1)};
            case "brings": return new long[] {about(1, 99), about(0, 1)};
            case "odds": return new long[] {about(0, 1)};
            case "fits": return new long[] {about(0, 3), about(0, 1)};
            case "voice": return new long[] {aDish(model), about(0, 3), anyNumber()};
            case "body": return new long[] {about(0, 6)};
            case "sheet": return new long[] {about(0, 3), draw(20) == 0 ? 7 : 8 * (draw(12) == 0 ? 0 : 1 << draw(3)),
                draw(2) == 0 ? draw(6) : about(0, 24)};
            case "put": return new long[] {about(0, 3), i, aSheetNumber(model, i)};
            case "move": return new long[] {about(0, 3), about(0, 6), about(0, 3), about(0, 6), about(0, 6)};
            case "serves": case "judge": return new long[] {about(0, 3)};
            case "tell": return new long[] {model.waits.size() < model.dishes.size() && draw(6) > 0
                ? model.dishes.get(model.waits.size()).age : anyNumber()};
            case "count": return new long[] {about(0, 7)};
            case "told": return new long[] {about(1, 6)};
            default: return new long[0];
        }
    }

    private static long ask(LeftoverRule x, int op, long[] a) {
        int[] i = new int[5];
        for (int j = 0; j < a.length; j++) {
            i[j] = (int) a[j];
        }
        switch (CALL[op]) {
            case "dish": return x.dish(i[0], i[1], i[2]);
            case "dishIs": return x.dishIs(i[0], i[1]);
            case "become": return x.become(i[0], i[1]);
            case "as": return x.as(i[0], i[1]);
            case "serve": return x.serve(i[0], i[1]);
            case "season": return x.season(i[0], i[1]);
            case "rules": return x.rules();
            case "feed": return x.feed(a[0], i[1]);
            case "text": return x.text(i[0]);
            case "untell": return x.untell(i[0]);
            case "law": return x.law(i[0], i[1], i[2], i[3]);
            case "meal": return x.meal(i[0]);
            case "meals": return x.meals(i[0], i[1]);
            case "loose": return x.loose(i[0]);
            case "seed": return x.seed(i[0]);
            case "then": return x.then(i[0], i[1], i[2]);
            case "gone": return x.gone(i[0], i[1]);
            case "needs": return x.needs(i[0]);
            case "clears": return x.clears(i[0], i[1], i[2], i[3]);
            case "brings": return x.brings(i[0], i[1]);
            case "odds": return x.odds(i[0]);
            case "fits": return x.fits(i[0], i[1]);
            case "voice": return x.voice(i[0], i[1], i[2]);
            case "body": return x.body(i[0]);
            case "sheet": return x.sheet(i[0], i[1], i[2]);
            case "put": return x.put(i[0], i[1], i[2]);
            case "move": return x.move(i[0], i[1], i[2], i[3], i[4]);
            case "serves": return x.serves(i[0]);
            case "judge": return x.judge(i[0]);
            case "image": return x.image();
            case "restore": return x.restore();
            case "tell": return x.tell(i[0]);
            case "check": return x.check();
            case "count": return x.count(i[0]);
            default: return x.told(i[0]);
        }
    }

    // ---- texts, mostly right ones

    private static String drawText(Model model) {
        int use = draw(2);
        model.intended = use;
        StringBuilder text = new StringBuilder();
        drawSome(text, use == 0 ? "cas" : "frd", 3 + draw(4));
        if (draw(4) == 0) {
            String odd = "casfrd0123456789+-*/%<=>&|!() x";
            int at = draw(text.length() + 1);
            switch (draw(3)) {
                case 0:
                    text.insert(at, odd.charAt(draw(odd.length())));
                    break;
                case 1:
                    text.setLength(at);
                    break;
                default:
                    text.insert(at, odd.charAt(draw(odd.length())));
                    text.setLength(Math.min(text.length(), at + 1 + draw(4)));
            }
        }
        if (text.length() > 60) {
            text.setLength(60);
        }
        return text.toString();
    }

    private static void drawSome(StringBuilder text, String names, int budget) {
        if (budget <= 1 || draw(5) == 0) {
            drawLeaf(text, names);
            return;
        }
        switch (draw(9)) {
            case 0:
                text.append('!');
                drawSome(text, names, budget - 1);
                break;
            case 1: case 2:
                text.append('(');
                drawSome(text, names, budget - 1);
                text.append(')');
                break;
            default:
                drawSome(text, names, budget / 2);
                text.append("|&<=>+-*/%+-*/%".charAt(draw(15)));
                drawSome(text, names, budget - budget / 2);
        }
    }

    private static void drawLeaf(StringBuilder text, String names) {
        if (draw(3) > 0) {
            text.append(names.charAt(draw(3)));
        } else {
            text.append(draw(5) > 0 ? draw(12) : draw(10000));
        }
    }

    // ---- the second reading

    private static final class Err extends RuntimeException {
        private static final long serialVersionUID = 1L;
        final int k;

        Err(int k) {
            super(null, null, false, false);
            this.k = k;
        }
    }

    private static final class Model {
        private static final int BEYOND = 1;
        private static final int NONE = 2;
        private static final int STATE = 3;
        private static final int FULL = 4;
        private static final int KIND = 5;
        private static final int PARTED = 6;

        List<Dish> dishes = new ArrayList<>();
        List<Integer> waits = new ArrayList<>();
        String tape = "";
        String[] texts = new String[2];
        int day;
        int hungry;
        int z = 1;
        final List<Integer> trace = new ArrayList<>();
        final Number[][] sheets = new Number[4][];
        final int[] sheetBits = new int[4];
        final int[] told = new int[7];
        Model kept;
        int images;
        int intended = -1;

        Model copy() {
            Model copy = new Model();
            for (Dish dish : dishes) {
                copy.dishes.add(dish.copy());
            }
            copy.waits = new ArrayList<>(waits);
            copy.tape = tape;
            copy.texts = texts.clone();
            copy.day = day;
            copy.hungry = hungry;
            copy.z = z;
            return copy;
        }

        long ask(String call, long[] a) {
            int[] i = new int[5];
            for (int j = 0; j < a.length; j++) {
                i[j] = (int) a[j];
            }
            try {
                return answer(call, a, i);
            } catch (Err e) {
                told[e.k]++;
                return -1000000000L - e.k;
            }
        }

        private static void need(boolean so, int k) {
            if (!so) {
                throw new Err(k);
            }
        }

        private static void in(int v, int least, int most) {
            need(v >= least && v <= most, BEYOND);
        }

        private Dish the(int dish) {
            in(dish, 0, dishes.size() - 1);
            return dishes.get(dish);
        }

        private long answer(String call, long[] a, int[] i) {
            switch (call) {
                case "dish":
                    in(i[0], 0, 69);
                    in(i[1], 0, 99);
                    in(i[2], 0, 9);
                    need(dishes.size() < 9, FULL);
                    dishes.add(new Dish(this, i[0], i[1], i[2]));
                    return dishes.size() - 1;
                case "dishIs": return dishIs(the(i[0]), i[1]);
                case "become": {
                    Dish dish = the(i[0]);
                    in(i[1], 0, 69);
                    int was = dish.kind;
                    dish.kind = i[1] / 10;
                    dish.m = i[1] % 10;
                    return was;
                }
                case "as": {
                    Dish dish = the(i[0]);
                    in(i[1], 0, 6);
                    Class<?>[] kinds = {Plain.class, Joint.class, Fruit.class, Bread.class, Ham.class, Pear.class, Cheese.class};
                    need(kinds[i[1]].isInstance(mouth(dish)), KIND);
                    return dish.m;
                }
                case "serve": {
                    Dish dish = the(i[0]);
                    in(i[1], 0, 99);
                    int was = dish.size;
                    dish.size = i[1];
                    return was;
                }
                case "season": {
                    Dish dish = the(i[0]);
                    in(i[1], 0, 9);
                    int was = dish.flavour;
                    dish.flavour = i[1];
                    return was;
                }
                case "rules":
                    need(say() != null, NONE);
                    return dishes.indexOf(say());
                case "feed":
                    in(i[1], 1, 8);
                    need(tape.length() + i[1] <= 60, FULL);
                    for (int j = 0; j < i[1]; j++) {
                        tape += (char) ((a[0] >> (8 * j)) & 0xff);
                    }
                    return tape.length();
                case "text": {
                    in(i[0], 0, 1);
                    String text = tape;
                    tape = "";
                    int fault = Text.fault(text, i[0] == 0 ? "cas" : "frd");
                    if (fault >= 0) {
                        return -10 - fault;
                    }
                    texts[i[0]] = text;
                    return 1;
                }
                case "untell": {
                    in(i[0], 0, 1);
                    int was = texts[i[0]] == null ? 0 : 1;
                    texts[i[0]] = null;
                    return was;
                }
                case "law":
                    in(i[0], 0, 1);
                    return i[0] == 0 ? claimLaw(i[1], i[2], i[3]) : keepLaw(i[1], i[2], i[3]);
                case "meal":
                    in(i[0], 0, 99);
                    need(day < 9999, STATE);
                    return meal(i[0]);
                case "meals":
                    in(i[0], 1, 60);
                    in(i[1], 0, 99);
                    need(day + i[0] <= 9999, STATE);
                    return after(i[0], i[1]).left();
                case "loose": {
                    in(i[0], 1, 30);
                    need(day + i[0] <= 9999, STATE);
                    int sum = 0;
                    for (int j = 0; j < i[0]; j++) {
                        sum += looseMeal();
                    }
                    return sum;
                }
                case "seed": {
                    int was = z;
                    z = i[0];
                    return was;
                }
                case "then": {
                    in(i[0], 0, 60);
                    in(i[1], 0, 99);
                    in(i[2], 0, 1);
                    Model then = copy().after(i[0], i[1]);
                    return i[2] == 0 ? then.left() : then.dishes.indexOf(then.say());
                }
                case "gone":
                    the(i[0]);
                    in(i[1], 0, 99);
                    for (int n = 0; n <= 60; n++) {
                        if (copy().after(n, i[1]).dishes.get(i[0]).size == 0) {
                            return n;
                        }
                    }
                    throw new Err(NONE);
                case "needs":
                    in(i[0], 0, 20);
                    for (int hunger = 0; hunger < 100; hunger++) {
                        if (copy().after(i[0], hunger).left() == 0) {
                            return hunger;
                        }
                    }
                    throw new Err(NONE);
                case "clears": return clears(i[0], i[1], i[2], i[3]);
                case "brings": return brings(i[0], i[1]);
                case "odds": {
                    in(i[0], 0, 1);
                    need(left() > 0, STATE);
                    int above = keptWithSay();
                    int below = left();
                    for (int by = below; by > 1; by--) {
                        if (above % by == 0 && below % by == 0) {
                            above /= by;
                            below /= by;
                        }
                    }
                    return i[0] == 0 ? above : below;
                }
                case "fits": {
                    in(i[0], 0, 3);
                    in(i[1], 0, 1);
                    need(sheets[i[0]] != null, NONE);
                    List<Integer> fitting = new ArrayList<>();
                    for (int hunger = 0; hunger < 100; hunger++) {
                        if (copy().after(1, hunger).sizesAre(sheets[i[0]])) {
                            fitting.add(hunger);
                        }
                    }
                    need(i[1] == 0 || !fitting.isEmpty(), NONE);
                    return i[1] == 0 ? fitting.size() : fitting.get(0);
                }
                case "voice": {
                    Dish dish = the(i[0]);
                    in(i[1], 0, 3);
                    trace.clear();
                    Plain mouth = mouth(dish);
                    switch (i[1]) {
                        case 0: return mouth.sighs(i[2]);
                        case 1: return mouth.asks(i[2]);
                        case 2: return mouth.scrapes(i[2]);
                        default: return mouth.parts(i[2]);
                    }
                }
                case "body":
                    need(i[0] >= 0 && i[0] < Math.min(30, trace.size()), NONE);
                    return trace.get(i[0]);
                case "image":
                    kept = copy();
                    images++;
                    return images;
                case "restore": {
                    need(kept != null, NONE);
                    Model again = kept.copy();
                    dishes = again.dishes;
                    for (Dish dish : dishes) {
                        dish.house = this;
                    }
                    waits = again.waits;
                    tape = again.tape;
                    texts = again.texts;
                    day = again.day;
                    hungry = again.hungry;
                    z = again.z;
                    return day;
                }
                case "tell":
                    need(waits.size() < 24, FULL);
                    waits.add(i[0]);
                    return waits.size();
                case "check": {
                    List<Integer> ages = new ArrayList<>();
                    for (Dish dish : dishes) {
                        ages.add(dish.age);
                    }
                    List<Integer> were = waits;
                    waits = new ArrayList<>();
                    int right = 0;
                    while (right < were.size() && right < ages.size() && were.get(right).equals(ages.get(right))) {
                        right++;
                    }
                    return right == were.size() ? 0 : right + 1;
                }
                case "count":
                    in(i[0], 0, 7);
                    return new int[] {dishes.size(), left(), day, hungry, tape.length(), waits.size(),
                        Math.min(30, trace.size()), z}[i[0]];
                case "told":
                    in(i[0], 1, 6);
                    return told[i[0]];
                default: return sheetCall(call, i);
            }
        }

        private long sheetCall(String call, int[] i) {
            in(i[0], 0, 3);
            if (call.equals("sheet")) {
                in(Arrays.asList(0, 8, 16, 32).indexOf(i[1]), 0, 3);
                if (i[1] == 0) {
                    sheets[i[0]] = null;
                    return 1;
                }
                need(i[2] >= 0, STATE);
                in(i[2], 0, 24);
                sheetBits[i[0]] = i[1];
                sheets[i[0]] = new Number[i[2]];
                Arrays.fill(sheets[i[0]], 0);
                return 1;
            }
            if (call.equals("move")) {
                in(i[2], 0, 3);
                need(sheets[i[0]] != null && sheets[i[2]] != null, NONE);
                need(sheetBits[i[0]] == sheetBits[i[2]], KIND);
                need(i[1] >= 0 && i[3] >= 0 && i[4] >= 0, BEYOND);
                need((long) i[1] + i[4] <= sheets[i[0]].length && (long) i[3] + i[4] <= sheets[i[2]].length, BEYOND);
                Number[] were = sheets[i[0]].clone();
                for (int j = 0; j < i[4]; j++) {
                    sheets[i[2]][i[3] + j] = were[i[1] + j];
                }
                return i[4];
            }
            Number[] sheet = sheets[i[0]];
            need(sheet != null, NONE);
            if (call.equals("put")) {
                in(i[1], 0, sheet.length - 1);
                int bits = sheetBits[i[0]];
                sheet[i[1]] = i[2] << (32 - bits) >> (32 - bits);
                return 1;
            }
            int right = 0;
            for (Number number : sheet) {
                int v = number.intValue();
                if (right >= dishes.size()) {
                    return right;
                }
                Dish dish = dishes.get(right);
                if (call.equals("judge") && v != claim(dish) || call.equals("serves") && (v < 0 || v > 99)) {
                    return right;
                }
                if (call.equals("serves")) {
                    dish.size = v;
                }
                right++;
            }
            return right;
        }

        private boolean sizesAre(Number[] sheet) {
            for (int i = 0; i < sheet.length; i++) {
                if (i >= dishes.size() || dishes.get(i).size != sheet[i].intValue()) {
                    return false;
                }
            }
            return true;
        }

        private long dishIs(Dish dish, int what) {
            in(what, 0, 7);
            int keeps = say() != null && inKeeping(dish, say()) ? 1 : 0;
            return new int[] {dish.kind, dish.m, dish.size, dish.age, dish.flavour, claim(dish), spoils(dish), keeps}[what];
        }

        private long clears(int dish, int n, int hunger, int what) {
            the(dish);
            in(n, 0, 6);
            in(hunger, 0, 99);
            in(what, 0, 1);
            int best = -1;
            for (int set = (1 << dishes.size()) - 1; set >= 0; set--) {
                Model would = copy();
                for (int i = 0; i < dishes.size(); i++) {
                    if ((set & 1 << i) != 0) {
                        would.dishes.get(i).size = 0;
                    }
                }
                would.after(n, hunger);
                boolean so = would.dishes.indexOf(would.say()) == dish;
                if (so && (best < 0 || Integer.bitCount(set) <= Integer.bitCount(best))) {
                    best = set;
                }
            }
            need(best >= 0, NONE);
            return what == 0 ? Integer.bitCount(best) : best;
        }

        private long brings(int size, int what) {
            in(size, 1, 99);
            in(what, 0, 1);
            need(left() > 0 && dishes.size() < 9, STATE);
            int[] much = new int[10];
            for (int flavour = 0; flavour < 10; flavour++) {
                Model would = copy();
                would.dishes.add(new Dish(would, 0, size, flavour));
                much[flavour] = would.keptWithSay();
            }
            int most = Arrays.stream(much).max().getAsInt();
            int flavour = 0;
            while (much[flavour] != most) {
                flavour++;
            }
            return what == 0 ? flavour : most;
        }

        int left() {
            return dishes.stream().mapToInt(d -> d.size).sum();
        }

        int keptWithSay() {
            Dish say = say();
            return dishes.stream().filter(d -> inKeeping(d, say)).mapToInt(d -> d.size).sum();
        }

        Dish say() {
            Dish say = null;
            for (int i = dishes.size() - 1; i >= 0; i--) {
                Dish dish = dishes.get(i);
                if (dish.size > 0 && (say == null || claim(dish) >= claim(say))) {
                    say = dish;
                }
            }
            return say;
        }

        boolean inKeeping(Dish one, Dish other) {
            return keepLaw(one.flavour, other.flavour, day % 7) == 1;
        }

        int claim(Dish d) {
            int plain = d.age + d.size / 10;
            int[] byKind = {plain, plain + d.m, 2 * plain, day % 7 == 4 ? 50 + d.m : plain, plain + d.m + d.size % 7,
                2 * plain + 40, plain - d.flavour};
            return claimLaw(byKind[d.kind], d.age, d.size);
        }

        int spoils(Dish d) {
            int plain = d.age / 5;
            int[] byKind = {plain, plain, plain + 1, 0, plain == 0 ? 0 : plain - 1, d.m > 4 ? 0 : plain + 1, plain * d.m / 4};
            return byKind[d.kind];
        }

        int claimLaw(int c, int a, int s) {
            int v = texts[0] == null ? c : Text.value(texts[0], "cas", c, a, s);
            return v < 0 ? 0 : v > 999 ? 999 : v;
        }

        int keepLaw(int f, int r, int d) {
            if (texts[1] == null) {
                return f == r || (f != Integer.MAX_VALUE && f + 1 == r) || (r != Integer.MAX_VALUE && r + 1 == f) ? 1 : 0;
            }
            return Text.value(texts[1], "frd", f, r, d) > 0 ? 1 : 0;
        }

        Model after(int n, int hunger) {
            for (int i = 0; i < n; i++) {
                meal(hunger);
            }
            return this;
        }

        int meal(int hunger) {
            Dish say = say();
            List<Dish> eaten = new ArrayList<>();
            List<int[]> order = new ArrayList<>();
            for (int i = 0; i < dishes.size(); i++) {
                if (dishes.get(i).size > 0 && inKeeping(dishes.get(i), say)) {
                    order.add(new int[] {claim(dishes.get(i)), i});
                }
            }
            order.sort(Comparator.<int[]>comparingInt(o -> o[0]).thenComparingInt(o -> o[1]));
            for (int[] o : order) {
                eaten.add(dishes.get(o[1]));
            }
            int rest = hunger;
            for (Dish dish : eaten) {
                while (dish.size > 0 && rest > 0) {
                    dish.size--;
                    rest--;
                }
            }
            for (Dish dish : dishes) {
                if (dish.size > 0) {
                    dish.age = dish.age == 999 ? 999 : dish.age + 1;
                    dish.size = Math.max(0, dish.size - spoils(dish));
                }
            }
            hungry = Math.min(99999, hungry + rest);
            day++;
            return rest;
        }

        private int drawn() {
            z = (int) ((z * 1103515245L + 12345L) & 0xffffffffL);
            return (int) ((z & 0xffffffffL) / 256);
        }

        private int looseMeal() {
            if (!dishes.isEmpty()) {
                int first = drawn();
                if ((first & 3) == 0) {
                    Dish dish = dishes.get(drawn() % dishes.size());
                    dish.size += drawn() % 20;
                    dish.size = Math.min(99, dish.size);
                }
            }
            return meal(drawn() % 30);
        }

        // ---- dishes, and how they speak

        static final class Dish {
            Model house;
            int kind;
            int m;
            int size;
            int age;
            int flavour;

            Dish(Model house, int km, int size, int flavour) {
                this.house = house;
                this.kind = km / 10;
                this.m = km % 10;
                this.size = size;
                this.flavour = flavour;
            }

            Dish copy() {
                Dish copy = new Dish(house, 10 * kind + m, size, flavour);
                copy.age = age;
                return copy;
            }
        }

        Plain mouth(Dish dish) {
            Plain[] all = {new Plain(), new Joint(), new Fruit(), new Bread(), new Ham(), new Pear(), new Cheese()};
            Plain mouth = all[dish.kind];
            mouth.k = dishes.indexOf(dish);
            mouth.m = dish.m;
            mouth.trace = trace;
            return mouth;
        }

        static class Plain {
            int k;
            int m;
            List<Integer> trace;

            int sighs(int x) {
                trace.add(10);
                return x + k;
            }

            int asks(int x) {
                trace.add(11);
                return sighs(x) * 2;
            }

            int scrapes(int x) {
                trace.add(12);
                return asks(x) - m;
            }

            int parts(int x) {
                trace.add(13);
                need(m != k, PARTED);
                return x / (m - k);
            }
        }

        static class Joint extends Plain {
            @Override int sighs(int x) {
                trace.add(20);
                return super.sighs(x) - 4;
            }

            @Override int parts(int x) {
                trace.add(21);
                return super.parts(x) + asks(1);
            }
        }

        static class Fruit extends Plain {
            @Override int asks(int x) {
                trace.add(30);
                return 0 - super.asks(x);
            }
        }

        static class Bread extends Plain {
            @Override int scrapes(int x) {
                trace.add(40);
                return super.scrapes(x / 2);
            }
        }

        static class Ham extends Joint {
            @Override int sighs(int x) {
                trace.add(50);
                return super.sighs(x) * 3;
            }

            @Override int scrapes(int x) {
                trace.add(51);
                return super.scrapes(x) ^ k;
            }
        }

        static class Pear extends Fruit {
            @Override int asks(int x) {
                trace.add(60);
                return super.asks(x + 1);
            }
        }

        static class Cheese extends Plain {
            @Override int sighs(int x) {
                trace.add(70);
                return 9;
            }

            @Override int asks(int x) {
                trace.add(71);
                return super.asks(x) + m;
            }
        }
    }

    /** TEXTS by a machine with two stacks, byte by byte, with no grammar followed downward. */
    private static final class Text {
        private static final String[] LEVELS = {"|", "&", "<=>", "+-", "*/%", "!"};

        /** -1: it is a text. */
        static int fault(String text, String names) {
            Deque<Character> open = new ArrayDeque<>();
            // Whether the B that is being read has its comparison, for each T that is open.
            Deque<Boolean> compared = new ArrayDeque<>();
            compared.push(false);
            boolean operand = true;
            int digits = 0;
            for (int i = 0; i < text.length(); i++) {
                char ch = text.charAt(i);
                boolean digit = ch >= '0' && ch <= '9';
                if (operand) {
                    digits = digit ? 1 : 0;
                    if (ch == '!' || ch == '(') {
                        if (open.size() == 5) {
                            return i;
                        }
                        open.push(ch);
                        if (ch == '(') {
                            compared.push(false);
                        }
                    } else if (digit || names.indexOf(ch) >= 0) {
                        operand = false;
                        closeNots(open);
                    } else {
                        return i;
                    }
                } else if (digit) {
                    if (digits == 0 || digits == 4) {
                        return i;
                    }
                    digits++;
                } else if (ch == ')') {
                    if (open.isEmpty()) {
                        return i;
                    }
                    open.pop();
                    compared.pop();
                    closeNots(open);
                    digits = 0;
                } else if ("|&<=>+-*/%".indexOf(ch) >= 0) {
                    boolean compares = "<=>".indexOf(ch) >= 0;
                    if (compares && compared.peek()) {
                        return i;
                    }
                    if (compares || ch == '|' || ch == '&') {
                        compared.pop();
                        compared.push(compares);
                    }
                    operand = true;
                } else {
                    return i;
                }
            }
            return operand || !open.isEmpty() ? text.length() : -1;
        }

        private static void closeNots(Deque<Character> open) {
            while (!open.isEmpty() && open.peek() == '!') {
                open.pop();
            }
        }

        static int value(String text, String names, int a, int b, int c) {
            Deque<Integer> values = new ArrayDeque<>();
            Deque<Character> signs = new ArrayDeque<>();
            for (int i = 0; i < text.length(); i++) {
                char ch = text.charAt(i);
                if (ch >= '0' && ch <= '9') {
                    int end = i;
                    while (end < text.length() && Character.isDigit(text.charAt(end))) {
                        end++;
                    }
                    values.push(Integer.parseInt(text.substring(i, end)));
                    i = end - 1;
                } else if (names.indexOf(ch) >= 0) {
                    values.push(new int[] {a, b, c}[names.indexOf(ch)]);
                } else if (ch == '(' || ch == '!') {
                    signs.push(ch);
                } else if (ch == ')') {
                    while (signs.peek() != '(') {
                        apply(signs.pop(), values);
                    }
                    signs.pop();
                } else {
                    while (!signs.isEmpty() && signs.peek() != '(' && level(signs.peek()) >= level(ch)) {
                        apply(signs.pop(), values);
                    }
                    signs.push(ch);
                }
            }
            while (!signs.isEmpty()) {
                apply(signs.pop(), values);
            }
            return values.pop();
        }

        private static int level(char sign) {
            for (int level = 0; level < LEVELS.length; level++) {
                if (LEVELS[level].indexOf(sign) >= 0) {
                    return level;
                }
            }
            throw new IllegalStateException("no sign: " + sign);
        }

        private static void apply(char sign, Deque<Integer> values) {
            int right = values.pop();
            if (sign == '!') {
                values.push(right == 0 ? 1 : 0);
                return;
            }
            int left = values.pop();
            long l = left;
            switch (sign) {
                case '|': values.push(left == 0 && right == 0 ? 0 : 1); break;
                case '&': values.push(left == 0 || right == 0 ? 0 : 1); break;
                case '<': values.push(left < right ? 1 : 0); break;
                case '=': values.push(left == right ? 1 : 0); break;
                case '>': values.push(left > right ? 1 : 0); break;
                case '+': values.push((int) (l + right)); break;
                case '-': values.push((int) (l - right)); break;
                case '*': values.push((int) (l * right)); break;
                case '/': values.push(right == 0 ? 0 : (int) (l / right)); break;
                default: values.push(right == 0 ? 0 : (int) (l % right));
            }
        }
    }
}
