/** The house in which leftovers have first claim on the next meal; the project's document says what each call does. */
public final class LeftoverRule {
    private static final int LOW = -1000000000;
    private static final int BEYOND = 1;
    private static final int NONE = 2;
    private static final int STATE = 3;
    private static final int FULL = 4;
    private static final int KIND = 5;
    private static final int PARTED = 6;

    private static final int DISH = 0;
    private static final int JOINT = 1;
    private static final int FRUIT = 2;
    private static final int BREAD = 3;
    private static final int HAM = 4;
    private static final int PEAR = 5;
    private static final int CHEESE = 6;
    private static final int KINDS = 7;
    /** The KIND above each KIND; -1 above DISH. */
    private static final int[] ABOVE = {-1, DISH, DISH, DISH, JOINT, FRUIT, DISH};

    private static final int SIGHS = 0;
    private static final int ASKS = 1;
    private static final int SCRAPES = 2;
    private static final int PARTS = 3;
    private static final int VOICES = 4;
    /** The BODY of each KIND's four VOICES; 0 where the KIND has none of its own. */
    private static final int[] BODIES = {
        10, 11, 12, 13,
        20, 0, 0, 21,
        0, 30, 0, 0,
        0, 0, 40, 0,
        50, 0, 51, 0,
        0, 60, 0, 0,
        70, 71, 0, 0};

    private static final int CLAIM = 0;
    private static final int KEEPING = 1;
    private static final int USES = KEEPING + 1;
    private static final int NAMES_OF_USE = 3;
    /** The NAMES of CLAIM, then those of KEEPING. */
    private static final char[] NAMES = {'c', 'a', 's', 'f', 'r', 'd'};

    private static final int MOST_DISHES = 9;
    private static final int MOST_SIZE = 99;
    private static final int MOST_AGE = 999;
    private static final int MOST_CLAIM = 999;
    private static final int MOST_FLAVOUR = 9;
    private static final int MOST_HUNGER = 99;
    private static final int MOST_HUNGRY = 99999;
    private static final int LAST_DAY = 9999;
    private static final int MOST_MEALS = 60;
    private static final int MOST_LOOSE = 30;
    private static final int TAPE_ROOM = 60;
    private static final int MOST_OPEN = 5;
    private static final int MOST_DIGITS = 4;
    private static final int SHEETS = 4;
    private static final int SHEET_ROOM = 24;
    private static final int WAITING_ROOM = 24;
    private static final int TRACE_ROOM = 30;

    private final House house = new House();
    private final House kept = new House();
    private final Table table = house.table;
    /** Where meals are only thought; it goes by the same laws. */
    private final Table thought = new Table(house.claim, house.keeping);
    private final Reader reader = new Reader();
    private final Voices voices = new Voices();
    private final Sheet[] sheets = new Sheet[SHEETS];
    private final int[] errors = new int[PARTED + 1];
    private int images;

    public LeftoverRule() {
        for (int i = 0; i < SHEETS; i++) {
            sheets[i] = new Sheet();
        }
    }

    // ---- dishes

    public int dish(int km, int size, int flavour) {
        if (!isKm(km) || !within(size, 0, MOST_SIZE) || !within(flavour, 0, MOST_FLAVOUR)) {
            return wrong(BEYOND);
        }
        if (table.dishes >= MOST_DISHES) {
            return wrong(FULL);
        }
        return table.bring(km, size, flavour);
    }

    public int dishIs(int dish, int what) {
        if (!table.has(dish)) {
            return wrong(BEYOND);
        }
        switch (what) {
            case 0: return table.kind[dish];
            case 1: return table.mark[dish];
            case 2: return table.size[dish];
            case 3: return table.age[dish];
            case 4: return table.flavour[dish];
            case 5: return table.claimOf(dish);
            case 6: return table.spoilOf(dish);
            case 7: return table.isKeptBy(table.sayer(), dish) ? 1 : 0;
            default: return wrong(BEYOND);
        }
    }

    public int become(int dish, int km) {
        if (!table.has(dish) || !isKm(km)) {
            return wrong(BEYOND);
        }
        int was = table.kind[dish];
        table.kind[dish] = km / 10;
        table.mark[dish] = km % 10;
        return was;
    }

    public int as(int dish, int kind) {
        if (!table.has(dish) || !within(kind, 0, KINDS - 1)) {
            return wrong(BEYOND);
        }
        int mine = table.kind[dish];
        for (int i = 0; i < KINDS && mine >= 0; i++) {
            if (mine == kind) {
                return table.mark[dish];
            }
            mine = ABOVE[mine];
        }
        return wrong(KIND);
    }

    public int serve(int dish, int size) {
        if (!table.has(dish) || !within(size, 0, MOST_SIZE)) {
            return wrong(BEYOND);
        }
        int was = table.size[dish];
        table.size[dish] = size;
        return was;
    }

    public int season(int dish, int flavour) {
        if (!table.has(dish) || !within(flavour, 0, MOST_FLAVOUR)) {
            return wrong(BEYOND);
        }
        int was = table.flavour[dish];
        table.flavour[dish] = flavour;
        return was;
    }

    public int rules() {
        int say = table.sayer();
        return say < 0 ? wrong(NONE) : say;
    }

    // ---- texts

    public int feed(long word, int n) {
        if (!within(n, 1, 8)) {
            return wrong(BEYOND);
        }
        if (house.taped + n > TAPE_ROOM) {
            return wrong(FULL);
        }
        for (int i = 0; i < n; i++) {
            house.tape[house.taped + i] = (int) (word >>> (8 * i)) & 255;
        }
        house.taped += n;
        return house.taped;
    }

    public int text(int use) {
        if (!isUse(use)) {
            return wrong(BEYOND);
        }
        int fault = reader.read(house.tape, house.taped, use);
        house.taped = 0;
        if (fault >= 0) {
            return -10 - fault;
        }
        lawOf(use).takeFrom(reader.draft);
        return 1;
    }

    public int untell(int use) {
        if (!isUse(use)) {
            return wrong(BEYOND);
        }
        return lawOf(use).forget() ? 1 : 0;
    }

    public int law(int use, int a, int b, int c) {
        return isUse(use) ? lawOf(use).gives(a, b, c) : wrong(BEYOND);
    }

    // ---- meals

    public int meal(int hunger) {
        if (!isHunger(hunger)) {
            return wrong(BEYOND);
        }
        return table.day >= LAST_DAY ? wrong(STATE) : table.dine(hunger);
    }

    public int meals(int n, int hunger) {
        if (!within(n, 1, MOST_MEALS) || !isHunger(hunger)) {
            return wrong(BEYOND);
        }
        if (table.day + n > LAST_DAY) {
            return wrong(STATE);
        }
        table.pass(n, hunger);
        return table.left();
    }

    public int loose(int n) {
        if (!within(n, 1, MOST_LOOSE)) {
            return wrong(BEYOND);
        }
        if (table.day + n > LAST_DAY) {
            return wrong(STATE);
        }
        int hungerLeft = 0;
        for (int i = 0; i < n; i++) {
            hungerLeft += house.dineByDraws();
        }
        return hungerLeft;
    }

    public int seed(int v) {
        int was = house.z;
        house.z = v;
        return was;
    }

    // ---- what would be

    public int then(int n, int hunger, int what) {
        if (!within(n, 0, MOST_MEALS) || !isHunger(hunger) || !within(what, 0, 1)) {
            return wrong(BEYOND);
        }
        thought.takeFrom(table);
        thought.pass(n, hunger);
        return what == 0 ? thought.left() : thought.sayer();
    }

    public int gone(int dish, int hunger) {
        if (!table.has(dish) || !isHunger(hunger)) {
            return wrong(BEYOND);
        }
        thought.takeFrom(table);
        for (int n = 0; n <= MOST_MEALS; n++) {
            if (thought.size[dish] == 0) {
                return n;
            }
            thought.dine(hunger);
        }
        return wrong(NONE);
    }

    public int needs(int n) {
        if (!within(n, 0, 20)) {
            return wrong(BEYOND);
        }
        for (int hunger = 0; hunger <= MOST_HUNGER; hunger++) {
            thought.takeFrom(table);
            thought.pass(n, hunger);
            if (thought.left() == 0) {
                return hunger;
            }
        }
        return wrong(NONE);
    }

    public int clears(int dish, int n, int hunger, int what) {
        if (!table.has(dish) || !within(n, 0, 6) || !isHunger(hunger) || !within(what, 0, 1)) {
            return wrong(BEYOND);
        }
        int sets = 1 << table.dishes;
        for (int many = 0; many <= table.dishes; many++) {
            for (int set = 0; set < sets; set++) {
                if (Integer.bitCount(set) == many && rulesWithout(set, dish, n, hunger)) {
                    return what == 0 ? many : set;
                }
            }
        }
        return wrong(NONE);
    }

    public int brings(int size, int what) {
        if (!within(size, 1, MOST_SIZE) || !within(what, 0, 1)) {
            return wrong(BEYOND);
        }
        if (table.left() == 0 || table.dishes >= MOST_DISHES) {
            return wrong(STATE);
        }
        thought.takeFrom(table);
        int guest = thought.bring(10 * DISH, size, 0);
        int best = 0;
        int most = -1;
        for (int flavour = 0; flavour <= MOST_FLAVOUR; flavour++) {
            thought.flavour[guest] = flavour;
            int much = thought.leftInKeeping();
            if (much > most) {
                most = much;
                best = flavour;
            }
        }
        return what == 0 ? best : most;
    }

    public int odds(int part) {
        if (!within(part, 0, 1)) {
            return wrong(BEYOND);
        }
        int all = table.left();
        if (all == 0) {
            return wrong(STATE);
        }
        int some = table.leftInKeeping();
        int common = commonDivisor(all, some);
        return (part == 0 ? some : all) / common;
    }

    public int fits(int sheet, int what) {
        if (!isSheet(sheet) || !within(what, 0, 1)) {
            return wrong(BEYOND);
        }
        if (sheets[sheet].isMissing()) {
            return wrong(NONE);
        }
        int many = 0;
        int least = -1;
        for (int hunger = 0; hunger <= MOST_HUNGER; hunger++) {
            thought.takeFrom(table);
            thought.dine(hunger);
            if (tellsSizes(sheets[sheet])) {
                many++;
                least = least < 0 ? hunger : least;
            }
        }
        if (what == 0) {
            return many;
        }
        return least < 0 ? wrong(NONE) : least;
    }

    // ---- voices, sheets, images, what is told

    public int voice(int dish, int voice, int x) {
        if (!table.has(dish) || !within(voice, 0, VOICES - 1)) {
            return wrong(BEYOND);
        }
        int said = voices.speak(table, dish, voice, x);
        return voices.parted ? wrong(PARTED) : said;
    }

    public int body(int i) {
        return within(i, 0, voices.traced - 1) ? voices.trace[i] : wrong(NONE);
    }

    public int sheet(int sheet, int bits, int n) {
        if (!isSheet(sheet) || bits != 0 && bits != 8 && bits != 16 && bits != 32) {
            return wrong(BEYOND);
        }
        if (bits != 0 && n < 0) {
            return wrong(STATE);
        }
        if (bits != 0 && n > SHEET_ROOM) {
            return wrong(BEYOND);
        }
        sheets[sheet].lay(bits, bits == 0 ? 0 : n);
        return 1;
    }

    public int put(int sheet, int i, int v) {
        if (!isSheet(sheet)) {
            return wrong(BEYOND);
        }
        Sheet row = sheets[sheet];
        if (row.isMissing()) {
            return wrong(NONE);
        }
        if (!within(i, 0, row.length - 1)) {
            return wrong(BEYOND);
        }
        row.write(i, v);
        return 1;
    }

    public int move(int sheet, int i, int other, int j, int n) {
        if (!isSheet(sheet) || !isSheet(other)) {
            return wrong(BEYOND);
        }
        Sheet from = sheets[sheet];
        Sheet to = sheets[other];
        if (from.isMissing() || to.isMissing()) {
            return wrong(NONE);
        }
        if (from.bits != to.bits) {
            return wrong(KIND);
        }
        if (!from.holds(i, n) || !to.holds(j, n)) {
            return wrong(BEYOND);
        }
        System.arraycopy(from.numbers, i, to.numbers, j, n);
        return n;
    }

    public int serves(int sheet) {
        if (!isSheet(sheet)) {
            return wrong(BEYOND);
        }
        Sheet row = sheets[sheet];
        if (row.isMissing()) {
            return wrong(NONE);
        }
        for (int i = 0; i < row.length; i++) {
            if (!table.has(i) || !within(row.numbers[i], 0, MOST_SIZE)) {
                return i;
            }
            table.size[i] = row.numbers[i];
        }
        return row.length;
    }

    public int judge(int sheet) {
        if (!isSheet(sheet)) {
            return wrong(BEYOND);
        }
        Sheet row = sheets[sheet];
        if (row.isMissing()) {
            return wrong(NONE);
        }
        for (int i = 0; i < row.length; i++) {
            if (!table.has(i) || row.numbers[i] != table.claimOf(i)) {
                return i;
            }
        }
        return row.length;
    }

    public int image() {
        kept.takeFrom(house);
        images++;
        return images;
    }

    public int restore() {
        if (images == 0) {
            return wrong(NONE);
        }
        house.takeFrom(kept);
        return table.day;
    }

    public int tell(int v) {
        if (house.waiting >= WAITING_ROOM) {
            return wrong(FULL);
        }
        house.waits[house.waiting] = v;
        house.waiting++;
        return house.waiting;
    }

    public int check() {
        int waiting = house.waiting;
        house.waiting = 0;
        for (int i = 0; i < waiting; i++) {
            if (!table.has(i) || house.waits[i] != table.age[i]) {
                return 1 + i;
            }
        }
        return 0;
    }

    public int count(int what) {
        switch (what) {
            case 0: return table.dishes;
            case 1: return table.left();
            case 2: return table.day;
            case 3: return table.hungry;
            case 4: return house.taped;
            case 5: return house.waiting;
            case 6: return voices.traced;
            case 7: return house.z;
            default: return wrong(BEYOND);
        }
    }

    public int told(int k) {
        return within(k, BEYOND, PARTED) ? errors[k] : wrong(BEYOND);
    }

    // ---- what the calls share

    private int wrong(int error) {
        errors[error]++;
        return LOW - error;
    }

    private static boolean within(int v, int least, int most) {
        return v >= least && v <= most;
    }

    private static boolean isKm(int km) {
        return within(km, 0, 10 * KINDS - 1);
    }

    private static boolean isHunger(int hunger) {
        return within(hunger, 0, MOST_HUNGER);
    }

    private static boolean isUse(int use) {
        return within(use, 0, USES - 1);
    }

    private static boolean isSheet(int sheet) {
        return within(sheet, 0, SHEETS - 1);
    }

    private Law lawOf(int use) {
        return use == CLAIM ? house.claim : house.keeping;
    }

    /** Whether a DISH has THE SAY some MEALS on, were the SIZES of a set 0 now. */
    private boolean rulesWithout(int set, int dish, int n, int hunger) {
        thought.takeFrom(table);
        for (int i = 0; i < thought.dishes; i++) {
            if ((set >> i & 1) == 1) {
                thought.size[i] = 0;
            }
        }
        for (int i = 0; i < n; i++) {
            // What is gone stays gone, so it never has THE SAY again.
            if (thought.size[dish] == 0) {
                return false;
            }
            thought.dine(hunger);
        }
        return thought.sayer() == dish;
    }

    /** A number for which there is no DISH tells no SIZE that is so. */
    private boolean tellsSizes(Sheet row) {
        for (int i = 0; i < row.length; i++) {
            if (!thought.has(i) || row.numbers[i] != thought.size[i]) {
                return false;
            }
        }
        return true;
    }

    /** Of a number above 0 and one of at least 0. */
    private static int commonDivisor(int a, int b) {
        for (int i = 0; i < 100 && b != 0; i++) {
            int rest = a % b;
            a = b;
            b = rest;
        }
        return a == 0 ? 1 : a;
    }

    /** All that an IMAGE keeps. */
    private static final class House {
        final Law claim = new Law(MOST_CLAIM, false);
        final Law keeping = new Law(1, true);
        final Table table = new Table(claim, keeping);
        final int[] tape = new int[TAPE_ROOM];
        int taped;
        final int[] waits = new int[WAITING_ROOM];
        int waiting;
        int z = 1;

        void takeFrom(House other) {
            claim.takeFrom(other.claim);
            keeping.takeFrom(other.keeping);
            table.takeFrom(other.table);
            System.arraycopy(other.tape, 0, tape, 0, TAPE_ROOM);
            taped = other.taped;
            System.arraycopy(other.waits, 0, waits, 0, WAITING_ROOM);
            waiting = other.waiting;
            z = other.z;
        }

        int dineByDraws() {
            if (table.dishes > 0) {
                int first = draw();
                if (first % 4 == 0) {
                    int guest = draw() % table.dishes;
                    table.size[guest] = Math.min(MOST_SIZE, table.size[guest] + draw() % 20);
                }
            }
            return table.dine(draw() % 30);
        }

        private int draw() {
            z = z * 1103515245 + 12345;
            return z >>> 8;
        }
    }

    /** DISHES, DAY and HUNGRY, under two laws that it only asks. */
    private static final class Table {
        private final Law claim;
        private final Law keeping;
        int dishes;
        int day;
        int hungry;
        final int[] kind = new int[MOST_DISHES];
        final int[] mark = new int[MOST_DISHES];
        final int[] size = new int[MOST_DISHES];
        final int[] age = new int[MOST_DISHES];
        final int[] flavour = new int[MOST_DISHES];
        /** What each DISH claims that can still be eaten at this MEAL; -1 for the others. */
        private final int[] claims = new int[MOST_DISHES];

        Table(Law claim, Law keeping) {
            this.claim = claim;
            this.keeping = keeping;
        }

        void takeFrom(Table other) {
            dishes = other.dishes;
            day = other.day;
            hungry = other.hungry;
            for (int i = 0; i < dishes; i++) {
                kind[i] = other.kind[i];
                mark[i] = other.mark[i];
                size[i] = other.size[i];
                age[i] = other.age[i];
                flavour[i] = other.flavour[i];
            }
        }

        boolean has(int dish) {
            return dish >= 0 && dish < dishes;
        }

        /** One more DISH: its number; -1, and nothing, if there is no room. */
        int bring(int km, int much, int taste) {
            if (dishes >= MOST_DISHES) {
                return -1;
            }
            int dish = dishes;
            kind[dish] = km / 10;
            mark[dish] = km % 10;
            size[dish] = much;
            age[dish] = 0;
            flavour[dish] = taste;
            dishes++;
            return dish;
        }

        int left() {
            int all = 0;
            for (int i = 0; i < dishes; i++) {
                all += size[i];
            }
            return all;
        }

        /** What is left of DISHES that are IN KEEPING with the one that has THE SAY. */
        int leftInKeeping() {
            int say = sayer();
            int all = 0;
            for (int i = 0; i < dishes; i++) {
                if (size[i] > 0 && isKeptBy(say, i)) {
                    all += size[i];
                }
            }
            return all;
        }

        /** Whether a DISH is IN KEEPING with the one that has THE SAY; not, if none (-1) has. */
        boolean isKeptBy(int say, int dish) {
            return say >= 0 && keeping.gives(flavour[dish], flavour[say], day % 7) == 1;
        }

        int claimOf(int dish) {
            return claim.gives(claimOfKind(dish), age[dish], size[dish]);
        }

        private int claimOfKind(int dish) {
            int plain = age[dish] + size[dish] / 10;
            switch (kind[dish]) {
                case JOINT: return plain + mark[dish];
                case FRUIT: return 2 * plain;
                case BREAD: return day % 7 == 4 ? 50 + mark[dish] : plain;
                case HAM: return plain + mark[dish] + size[dish] % 7;
                case PEAR: return 2 * plain + 40;
                case CHEESE: return plain - flavour[dish];
                default: return plain;
            }
        }

        int spoilOf(int dish) {
            int plain = age[dish] / 5;
            switch (kind[dish]) {
                case FRUIT: return plain + 1;
                case BREAD: return 0;
                case HAM: return Math.max(0, plain - 1);
                case PEAR: return mark[dish] > 4 ? 0 : plain + 1;
                case CHEESE: return plain * mark[dish] / 4;
                default: return plain;
            }
        }

        /** The DISH that has THE SAY, -1 if nothing is left; the row of claims is new then. */
        int sayer() {
            int say = -1;
            for (int i = 0; i < dishes; i++) {
                claims[i] = size[i] > 0 ? claimOf(i) : -1;
                if (claims[i] >= 0 && (say < 0 || claims[i] > claims[say])) {
                    say = i;
                }
            }
            return say;
        }

        void pass(int n, int hunger) {
            for (int i = 0; i < n; i++) {
                dine(hunger);
            }
        }

        /** One MEAL: the hunger that is left. */
        int dine(int hunger) {
            int rest = eat(sayer(), hunger);
            for (int i = 0; i < dishes; i++) {
                if (size[i] > 0) {
                    age[i] = Math.min(MOST_AGE, age[i] + 1);
                    size[i] = Math.max(0, size[i] - spoilOf(i));
                }
            }
            hungry = Math.min(MOST_HUNGRY, hungry + rest);
            day++;
            return rest;
        }

        private int eat(int say, int hunger) {
            for (int i = 0; i < dishes; i++) {
                if (claims[i] >= 0 && !isKeptBy(say, i)) {
                    claims[i] = -1;
                }
            }
            int rest = hunger;
            for (int turn = 0; turn < dishes && rest > 0; turn++) {
                int dish = leastClaim();
                if (dish < 0) {
                    return rest;
                }
                int bite = Math.min(rest, size[dish]);
                size[dish] -= bite;
                rest -= bite;
                claims[dish] = -1;
            }
            return rest;
        }

        private int leastClaim() {
            int least = -1;
            for (int i = 0; i < dishes; i++) {
                if (claims[i] >= 0 && (least < 0 || claims[i] < claims[least])) {
                    least = i;
                }
            }
            return least;
        }
    }

    /** The TEXT of a USE, or what holds without one. */
    private static final class Law {
        /** A step below it is a NUMBER; from it on, one of the three NAMES. */
        static final int NAME = 10000;
        /** From it on a step is a sign. */
        static final int SIGN = 20000;

        private final int most;
        private final boolean ofFlavours;
        /** The TEXT with each sign behind what it joins; a byte makes at most one step. */
        private final int[] steps = new int[TAPE_ROOM];
        private final int[] stack = new int[TAPE_ROOM];
        /** 0: there is no TEXT. */
        private int length;

        Law(int most, boolean ofFlavours) {
            this.most = most;
            this.ofFlavours = ofFlavours;
        }

        void add(int step) {
            if (length < TAPE_ROOM) {
                steps[length] = step;
                length++;
            }
        }

        void takeFrom(Law other) {
            length = other.length;
            System.arraycopy(other.steps, 0, steps, 0, length);
        }

        boolean forget() {
            boolean was = length > 0;
            length = 0;
            return was;
        }

        int gives(int a, int b, int c) {
            stack[0] = withoutText(a, b);
            int top = 0;
            for (int i = 0; i < length; i++) {
                int step = steps[i];
                if (step < SIGN && top < TAPE_ROOM) {
                    stack[top] = step < NAME ? step : step == NAME ? a : step == NAME + 1 ? b : c;
                    top++;
                } else if (step == SIGN + '!' && top >= 1) {
                    stack[top - 1] = stack[top - 1] == 0 ? 1 : 0;
                } else if (step > SIGN && top >= 2) {
                    top--;
                    stack[top - 1] = joined(stack[top - 1], step - SIGN, stack[top]);
                }
            }
            return Math.max(0, Math.min(most, stack[0]));
        }

        private int withoutText(int a, int b) {
            // In longs, for law() may ask of flavours further apart than an int tells.
            return ofFlavours ? Math.abs((long) a - b) < 2 ? 1 : 0 : a;
        }

        private static int joined(int left, int sign, int right) {
            switch (sign) {
                case '|': return left != 0 || right != 0 ? 1 : 0;
                case '&': return left != 0 && right != 0 ? 1 : 0;
                case '<': return left < right ? 1 : 0;
                case '=': return left == right ? 1 : 0;
                case '>': return left > right ? 1 : 0;
                case '+': return left + right;
                case '-': return left - right;
                case '*': return left * right;
                case '/': return right == 0 ? 0 : left / right;
                case '%': return right == 0 ? 0 : left % right;
                default: return 0;
            }
        }
    }

    /** Reads THE TAPE; it stops at the first byte with which no TEXT goes on. */
    private static final class Reader {
        private static final int END = -1;
        /** Levels 0 to 4 are T, A, B, S and P; on level 5 stands Q. */
        private static final int COMPARED = 2;
        private static final int Q = 5;

        final Law draft = new Law(0, false);
        private final int[] bytes = new int[TAPE_ROOM];
        private int length;
        private int place;
        private int use;
        private boolean faulty;

        /** The FAULT; -1 if there is none, and the draft is the TEXT. */
        int read(int[] tape, int taped, int ofUse) {
            length = Math.min(taped, TAPE_ROOM);
            System.arraycopy(tape, 0, bytes, 0, length);
            place = 0;
            use = ofUse;
            faulty = false;
            draft.forget();
            readLevel(0, 0);
            return faulty || place < length ? place : -1;
        }

        private int next() {
            return place < length ? bytes[place] : END;
        }

        private void readLevel(int level, int open) {
            if (level >= Q) {
                readQ(open);
                return;
            }
            readLevel(level + 1, open);
            int most = level == COMPARED ? 1 : TAPE_ROOM;
            for (int i = 0; i < most && !faulty && levelOf(next()) == level; i++) {
                int sign = next();
                place++;
                readLevel(level + 1, open);
                draft.add(Law.SIGN + sign);
            }
        }

        private static int levelOf(int sign) {
            switch (sign) {
                case '|': return 0;
                case '&': return 1;
                case '<': case '=': case '>': return COMPARED;
                case '+': case '-': return 3;
                case '*': case '/': case '%': return 4;
                default: return END;
            }
        }

        private void readQ(int open) {
            int sign = next();
            int name = nameOf(sign);
            if (isDigit(sign)) {
                readNumber();
            } else if (name >= 0) {
                place++;
                draft.add(Law.NAME + name);
            } else if (sign == '!' && open < MOST_OPEN) {
                place++;
                readQ(open + 1);
                draft.add(Law.SIGN + '!');
            } else if (sign == '(' && open < MOST_OPEN) {
                place++;
                readLevel(0, open + 1);
                readClosing();
            } else {
                faulty = true;
            }
        }

        private void readClosing() {
            if (!faulty && next() == ')') {
                place++;
            } else {
                faulty = true;
            }
        }

        private void readNumber() {
            int number = 0;
            for (int i = 0; i < MOST_DIGITS && isDigit(next()); i++) {
                number = number * 10 + next() - '0';
                place++;
            }
            draft.add(number);
        }

        private static boolean isDigit(int sign) {
            return sign >= '0' && sign <= '9';
        }

        /** Which of its USE's NAMES a byte is; -1: none. */
        private int nameOf(int sign) {
            for (int i = 0; i < NAMES_OF_USE; i++) {
                if (NAMES[use * NAMES_OF_USE + i] == sign) {
                    return i;
                }
            }
            return -1;
        }
    }

    /** Speaks with the VOICES of a DISH, and keeps THE TRACE. */
    private static final class Voices {
        /** No chain of BODIES is as deep. */
        private static final int DEEPEST = 30;

        final int[] trace = new int[TRACE_ROOM];
        int traced;
        boolean parted;
        private int kind;
        private int k;
        private int m;

        int speak(Table table, int dish, int voice, int x) {
            kind = table.kind[dish];
            k = dish;
            m = table.mark[dish];
            traced = 0;
            parted = false;
            return say(voice, kind, x, 0);
        }

        /** The BODY of a VOICE that a KIND has, or the next KIND above it that has one. */
        private int say(int voice, int from, int x, int depth) {
            int owner = ownerOf(voice, from);
            if (owner < 0 || depth > DEEPEST) {
                return 0;
            }
            int body = BODIES[owner * VOICES + voice];
            int above = ABOVE[owner];
            began(body);
            switch (body) {
                case 10: return x + k;
                case 11: return say(SIGHS, kind, x, depth + 1) * 2;
                case 12: return say(ASKS, kind, x, depth + 1) - m;
                case 13: return part(x);
                case 20: return say(SIGHS, above, x, depth + 1) - 4;
                case 21: return partOfJoint(say(PARTS, above, x, depth + 1), depth);
                case 30: return 0 - say(ASKS, above, x, depth + 1);
                case 40: return say(SCRAPES, above, x / 2, depth + 1);
                case 50: return say(SIGHS, above, x, depth + 1) * 3;
                case 51: return say(SCRAPES, above, x, depth + 1) ^ k;
                case 60: return say(ASKS, above, x + 1, depth + 1);
                case 70: return 9;
                case 71: return say(ASKS, above, x, depth + 1) + m;
                default: return 0;
            }
        }

        private static int ownerOf(int voice, int from) {
            int owner = from;
            for (int i = 0; i < KINDS && owner >= 0; i++) {
                if (BODIES[owner * VOICES + voice] != 0) {
                    return owner;
                }
                owner = ABOVE[owner];
            }
            return -1;
        }

        private void began(int body) {
            if (traced < TRACE_ROOM) {
                trace[traced] = body;
                traced++;
            }
        }

        private int part(int x) {
            int divisor = m - k;
            parted = divisor == 0;
            return parted ? 0 : x / divisor;
        }

        /** What is PARTED asks no more. */
        private int partOfJoint(int plain, int depth) {
            return parted ? 0 : plain + say(ASKS, kind, 1, depth + 1);
        }
    }

    /** A row of numbers of 8, 16 or 32 bits. */
    private static final class Sheet {
        /** 0: it is missing. */
        int bits;
        int length;
        final int[] numbers = new int[SHEET_ROOM];

        boolean isMissing() {
            return bits == 0;
        }

        void lay(int ofBits, int n) {
            bits = ofBits;
            length = n;
            for (int i = 0; i < SHEET_ROOM; i++) {
                numbers[i] = 0;
            }
        }

        void write(int i, int v) {
            numbers[i] = bits == 8 ? (byte) v : bits == 16 ? (short) v : v;
        }

        /** Whether n numbers stand there from number i on; in this order no sum can wrap. */
        boolean holds(int i, int n) {
            return n >= 0 && i >= 0 && i <= length && n <= length - i;
        }
    }
}
