/** What each promise says, call by call, with answers worked out by hand from the document. */
public final class PromiseTests {
    private static final int BEYOND = -1000000001;
    private static final int NONE = -1000000002;
    private static final int STATE = -1000000003;
    private static final int FULL = -1000000004;
    private static final int KIND = -1000000005;
    private static final int PARTED = -1000000006;
    private static final int CLAIM = 0;
    private static final int KEEPING = 1;

    private static int asked = 0;
    private static int wrong = 0;
    private static String promise = "";

    public static void main(String[] args) {
        aNewObject();
        dishes();
        aDishIs();
        claimsAndSpoilsByKind();
        ages();
        becomes();
        asKinds();
        servesAndSeasons();
        theSay();
        theTape();
        textsAndFaults();
        howDeepTextsGo();
        whatTextsGive();
        untold();
        laws();
        aMeal();
        inWhichOrderIsEaten();
        someMeals();
        mealsByDraws();
        seeds();
        then();
        gone();
        needs();
        clears();
        brings();
        odds();
        fits();
        voices();
        theTrace();
        sheets();
        puts();
        moves();
        sheetsServe();
        sheetsJudge();
        images();
        whatAnImageKeeps();
        whatIsNewBehindAnImage();
        checks();
        counts();
        told();
        System.out.println(asked + " answers asked, " + wrong + " not as due");
        if (wrong != 0) {
            System.exit(1);
        }
    }

    private static void on(String name) {
        promise = name;
    }

    private static void due(long want, long got) {
        asked++;
        if (want != got) {
            wrong++;
            StackTraceElement at = new Throwable().getStackTrace()[1];
            System.out.println(promise + ", line " + at.getLineNumber() + ": answered " + got + ", due is " + want);
        }
    }

    private static void feed(LeftoverRule x, String text) {
        for (int i = 0; i < text.length(); i++) {
            x.feed(text.charAt(i), 1);
        }
    }

    private static int text(LeftoverRule x, int use, String text) {
        feed(x, text);
        return x.text(use);
    }

    private static int[] some(int... numbers) {
        return numbers;
    }

    /** Dishes km, size, flavour, km, size, flavour, .. */
    private static LeftoverRule with(int... dishes) {
        LeftoverRule x = new LeftoverRule();
        for (int i = 0; i < dishes.length; i += 3) {
            x.dish(dishes[i], dishes[i + 1], dishes[i + 2]);
        }
        return x;
    }

    private static void lay(LeftoverRule x, int sheet, int bits, int... numbers) {
        x.sheet(sheet, bits, numbers.length);
        for (int i = 0; i < numbers.length; i++) {
            x.put(sheet, i, numbers[i]);
        }
    }

    private static void aNewObject() {
        on("1 a new object");
        LeftoverRule x = new LeftoverRule();
        for (int what = 0; what < 7; what++) {
            due(0, x.count(what));
        }
        due(1, x.count(7));
        for (int k = 1; k <= 6; k++) {
            due(0, x.told(k));
        }
        due(BEYOND, x.dishIs(0, 0));
        due(NONE, x.rules());
        due(0, x.untell(CLAIM));
        due(0, x.untell(KEEPING));
        for (int sheet = 0; sheet < 4; sheet++) {
            due(NONE, x.serves(sheet));
        }
        due(NONE, x.restore());
        due(NONE, x.body(0));
        due(1, x.image());
        due(0, x.check());
    }

    private static void dishes() {
        on("2 dish");
        LeftoverRule x = new LeftoverRule();
        due(BEYOND, x.dish(-1, 1, 1));
        due(BEYOND, x.dish(70, 1, 1));
        due(BEYOND, x.dish(0, -1, 1));
        due(BEYOND, x.dish(0, 100, 1));
        due(BEYOND, x.dish(0, 1, -1));
        due(BEYOND, x.dish(0, 1, 10));
        due(BEYOND, x.dish(Integer.MIN_VALUE, Integer.MAX_VALUE, 1));
        due(0, x.count(0));
        due(0, x.dish(0, 0, 0));
        due(1, x.dish(69, 99, 9));
        due(0, x.dishIs(0, 0));
        due(0, x.dishIs(0, 1));
        due(6, x.dishIs(1, 0));
        due(9, x.dishIs(1, 1));
        due(99, x.dishIs(1, 2));
        due(0, x.dishIs(1, 3));
        due(9, x.dishIs(1, 4));
        x.meals(3, 0);
        due(2, x.dish(25, 10, 4));
        due(0, x.dishIs(2, 3));
        for (int i = 3; i < 9; i++) {
            due(i, x.dish(i, i, i));
        }
        due(FULL, x.dish(0, 1, 1));
        due(BEYOND, x.dish(0, 100, 1));
        due(9, x.count(0));
    }

    private static void aDishIs() {
        on("3 dishIs");
        LeftoverRule x = with(14, 20, 2, 25, 10, 4, 0, 0, 5);
        due(1, x.dishIs(0, 0));
        due(4, x.dishIs(0, 1));
        due(20, x.dishIs(0, 2));
        due(0, x.dishIs(0, 3));
        due(2, x.dishIs(0, 4));
        due(6, x.dishIs(0, 5));
        due(2, x.dishIs(1, 5));
        due(0, x.dishIs(0, 6));
        due(1, x.dishIs(1, 6));
        // Dish 0 has THE SAY; with FLAVOURS 2, 4 and 5 only it is in keeping.
        due(1, x.dishIs(0, 7));
        due(0, x.dishIs(1, 7));
        x.season(0, 4);
        due(1, x.dishIs(1, 7));
        due(1, x.dishIs(2, 7));
        x.season(0, 3);
        due(1, x.dishIs(1, 7));
        due(0, x.dishIs(2, 7));
        x.serve(0, 0);
        x.serve(1, 0);
        due(0, x.dishIs(0, 7));
        due(4, x.dishIs(0, 5));
        due(BEYOND, x.dishIs(-1, 0));
        due(BEYOND, x.dishIs(3, 0));
        due(BEYOND, x.dishIs(0, -1));
        due(BEYOND, x.dishIs(0, 8));
        due(BEYOND, x.dishIs(9, 0));
        due(BEYOND, x.dishIs(Integer.MAX_VALUE, 0));
    }

    private static LeftoverRule oneOfEach() {
        return with(0, 99, 0, 13, 99, 0, 20, 99, 0, 36, 99, 0, 42, 99, 0, 55, 99, 0, 54, 99, 0, 67, 99, 9);
    }

    private static void claimsAndSpoilsByKind() {
        on("term 1, CLAIMS and SPOILS");
        LeftoverRule x = oneOfEach();
        due(90 * 8 + 72, x.count(1));
        int[] atFirst = some(9, 12, 18, 9, 12, 58, 58, 0);
        int[] atFirstSpoils = some(0, 0, 1, 0, 0, 0, 1, 0);
        for (int i = 0; i < 8; i++) {
            due(atFirst[i], x.dishIs(i, 5));
            due(atFirstSpoils[i], x.dishIs(i, 6));
        }
        x.meals(10, 0);
        int[] sizes = some(92, 92, 82, 99, 98, 99, 82, 91);
        int[] claims = some(19, 22, 36, 19, 21, 78, 76, 10);
        int[] spoils = some(2, 2, 3, 0, 1, 0, 3, 3);
        for (int i = 0; i < 8; i++) {
            due(sizes[i], x.dishIs(i, 2));
            due(claims[i], x.dishIs(i, 5));
            due(spoils[i], x.dishIs(i, 6));
            due(10, x.dishIs(i, 3));
        }
        x.meal(0);
        due(56, x.dishIs(3, 5));
        x.meal(0);
        due(21, x.dishIs(3, 5));
        LeftoverRule bread = with(35, 8, 0);
        int[] week = some(0, 1, 2, 3, 55, 5, 6, 7);
        for (int i = 0; i < 8; i++) {
            due(week[i], bread.dishIs(0, 5));
            bread.meal(0);
        }
        LeftoverRule ham = with(42, 33, 0, 42, 34, 0, 42, 35, 0);
        due(3 + 2 + 5, ham.dishIs(0, 5));
        due(3 + 2 + 6, ham.dishIs(1, 5));
        due(3 + 2, ham.dishIs(2, 5));
    }

    private static void ages() {
        on("term 1, AGE held");
        LeftoverRule x = with(59, 99, 0, 30, 0, 0);
        for (int i = 0; i < 16; i++) {
            x.meals(60, 0);
        }
        x.meals(38, 0);
        due(998, x.dishIs(0, 3));
        x.meal(0);
        due(999, x.dishIs(0, 3));
        x.meal(0);
        due(999, x.dishIs(0, 3));
        due(99, x.dishIs(0, 2));
        // What a TEXT would hold at 999 is held without one, too.
        due(999, x.dishIs(0, 5));
        due(0, x.dishIs(1, 3));
        LeftoverRule bread = with(30, 99, 0);
        for (int i = 0; i < 4; i++) {
            bread.meals(60, 0);
        }
        due(240, bread.dishIs(0, 3));
        due(99, bread.dishIs(0, 2));
        due(1, bread.image());
        bread.become(0, 0);
        due(48, bread.dishIs(0, 6));
        bread.meal(0);
        due(51, bread.dishIs(0, 2));
        bread.meal(0);
        bread.meal(0);
        due(0, bread.dishIs(0, 2));
        due(243, bread.dishIs(0, 3));
        bread.meal(0);
        due(243, bread.dishIs(0, 3));
    }

    private static void becomes() {
        on("4 become");
        LeftoverRule x = with(14, 20, 2);
        due(1, x.become(0, 57));
        due(5, x.dishIs(0, 0));
        due(7, x.dishIs(0, 1));
        due(20, x.dishIs(0, 2));
        due(2, x.dishIs(0, 4));
        due(5, x.become(0, 0));
        due(0, x.become(0, 69));
        due(BEYOND, x.become(0, 70));
        due(BEYOND, x.become(0, -1));
        due(BEYOND, x.become(1, 0));
        due(BEYOND, x.become(-1, 0));
        due(6, x.dishIs(0, 0));
        due(9, x.dishIs(0, 1));
    }

    private static void asKinds() {
        on("5 as");
        int[][] isA = {
            {1, 0, 0, 0, 0, 0, 0}, {1, 1, 0, 0, 0, 0, 0}, {1, 0, 1, 0, 0, 0, 0}, {1, 0, 0, 1, 0, 0, 0},
            {1, 1, 0, 0, 1, 0, 0}, {1, 0, 1, 0, 0, 1, 0}, {1, 0, 0, 0, 0, 0, 1}};
        for (int mine = 0; mine < 7; mine++) {
            LeftoverRule x = with(10 * mine + mine, 1, 1);
            for (int kind = 0; kind < 7; kind++) {
                due(isA[mine][kind] == 1 ? mine : KIND, x.as(0, kind));
            }
            due(BEYOND, x.as(0, 7));
            due(BEYOND, x.as(0, -1));
            due(BEYOND, x.as(1, 0));
            due(BEYOND, x.as(-1, 0));
            due(4, x.told(1));
        }
    }

    private static void servesAndSeasons() {
        on("6 serve");
        LeftoverRule x = with(0, 20, 2);
        due(20, x.serve(0, 0));
        due(0, x.serve(0, 99));
        due(BEYOND, x.serve(0, 100));
        due(BEYOND, x.serve(0, -1));
        due(BEYOND, x.serve(1, 0));
        due(BEYOND, x.serve(-1, 0));
        due(99, x.dishIs(0, 2));
        on("7 season");
        due(2, x.season(0, 0));
        due(0, x.season(0, 9));
        due(BEYOND, x.season(0, 10));
        due(BEYOND, x.season(0, -1));
        due(BEYOND, x.season(1, 0));
        due(BEYOND, x.season(-1, 0));
        due(9, x.dishIs(0, 4));
    }

    private static void theSay() {
        on("8 rules");
        LeftoverRule x = with(0, 20, 2, 0, 29, 2, 0, 30, 2, 0, 39, 2);
        due(2, x.rules());
        x.serve(2, 0);
        due(3, x.rules());
        x.serve(3, 0);
        due(0, x.rules());
        x.serve(0, 9);
        due(1, x.rules());
        x.serve(1, 9);
        due(0, x.rules());
        x.serve(0, 0);
        x.serve(1, 0);
        due(NONE, x.rules());
        x.dish(60, 1, 9);
        // CHEESE claims less than 0, held at 0; THE SAY it has all the same.
        due(0, x.dishIs(4, 5));
        due(4, x.rules());
        due(1, text(x, CLAIM, "100-s"));
        x.serve(2, 7);
        x.serve(3, 7);
        due(4, x.rules());
        x.serve(4, 8);
        due(2, x.rules());
    }

    private static void theTape() {
        on("9 feed");
        LeftoverRule x = new LeftoverRule();
        due(BEYOND, x.feed(7, 0));
        due(BEYOND, x.feed(7, 9));
        due(BEYOND, x.feed(7, -1));
        due(0, x.count(4));
        // The lowest byte first: c, +, s.
        due(3, x.feed(0xFFFFFFFF_FF732B63L, 3));
        due(1, x.text(CLAIM));
        due(12, x.law(CLAIM, 5, 100, 7));
        due(8, x.feed(0x372B362B352B3431L, 8));
        due(1, x.text(CLAIM));
        due(14 + 5 + 6 + 7, x.law(CLAIM, 0, 0, 0));
        for (int i = 1; i <= 7; i++) {
            due(8 * i, x.feed(0L, 8));
        }
        due(FULL, x.feed(0L, 5));
        due(56, x.count(4));
        due(60, x.feed(0L, 4));
        due(FULL, x.feed(0L, 1));
        due(BEYOND, x.feed(0L, 9));
        due(60, x.count(4));
        due(-10, x.text(CLAIM));
        due(0, x.count(4));
        // A byte is no sign when it is but like one below its highest bits.
        due(-10, text(x, CLAIM, "\u00e3"));
    }

    private static void textsAndFaults() {
        on("10 text");
        LeftoverRule x = new LeftoverRule();
        feed(x, "c");
        due(BEYOND, x.text(2));
        due(BEYOND, x.text(-1));
        due(1, x.count(4));
        due(1, x.text(CLAIM));
        due(0, x.count(4));
        due(-10, x.text(CLAIM));
        due(-10, x.text(KEEPING));
        String[] good = {"c", "a", "s", "0", "9999", "0000", "c|a&s", "c<a", "c<a&c<s", "(c<a)<s", "!c", "!c<a", "c<!a",
            "c*a/s%9", "c+a-s", "c=(a=s)", "!!!!!c", "(((((c)))))", "!(!(!c))", "!!!!!c+!!!!!c", "(c)+(((((c)))))", "c|a|s|c"};
        for (String text : good) {
            due(1, text(x, CLAIM, text));
        }
        String[] bad = {"f", "cf", "c+f", "c ", " c", "12345", "c+12345", "cc", "1c", "c1", "c<a<s", "c<a=s", "c>a+s>c",
            "()", "(c", "(c]", "(c))", "c)", "!", "c!", "c!=a", "-c", "c--a", "c+", "(", "c<=a", "c&&a", "c||a", "c|", "C",
            "(c<a<s)", "c(", "1(", "(c)c", "c\u0000", "+", "<", "(c<a)<s<c", "c<a|c<a<s"};
        int[] places = {0, 1, 2, 1, 0, 4, 6, 1, 1, 1, 3, 3, 5,
            1, 2, 2, 3, 1, 1, 1, 1, 0, 2, 2, 1, 2, 2, 2, 2, 0,
            4, 1, 1, 3, 1, 0, 0, 7, 7};
        for (int i = 0; i < bad.length; i++) {
            promise = "10 text " + bad[i];
            due(-10 - places[i], text(x, CLAIM, bad[i]));
            due(0, x.count(4));
        }
        on("10 text, NAMES and the one ahead");
        due(1, text(x, CLAIM, "c+7"));
        due(-11, text(x, CLAIM, "cc"));
        due(12, x.law(CLAIM, 5, 0, 0));
        due(1, text(x, CLAIM, "c+8"));
        due(13, x.law(CLAIM, 5, 0, 0));
        due(1, text(x, KEEPING, "f=r|d"));
        due(-10, text(x, KEEPING, "c"));
        due(-12, text(x, KEEPING, "f=s"));
        due(-10, text(x, CLAIM, "r"));
        due(-10, text(x, CLAIM, "d"));
        due(0, x.told(4));
        due(2, x.told(1));
    }

    private static void howDeepTextsGo() {
        on("term 2, at most 5 open");
        LeftoverRule x = new LeftoverRule();
        due(-15, text(x, CLAIM, "!!!!!!c"));
        due(-15, text(x, CLAIM, "((((((c))))))"));
        due(-15, text(x, CLAIM, "!(!(!(c)))"));
        due(-15, text(x, CLAIM, "(!(!(!c"));
        due(-15, text(x, CLAIM, "((((("));
        due(-16, text(x, CLAIM, "(((((c"));
        due(-20, text(x, CLAIM, "((((!c)+!c"));
        due(-17, text(x, CLAIM, "((((!c)!c"));
        due(-15, text(x, CLAIM, "(((((!c"));
        due(1, text(x, CLAIM, "((((!c)*!c)))"));
        due(1, text(x, CLAIM, "(((((c)+(c))+((c)))))"));
        StringBuilder whole = new StringBuilder("1");
        while (whole.length() < 59) {
            whole.append("+1");
        }
        due(1, text(x, CLAIM, whole.toString()));
        due(30, x.law(CLAIM, 0, 0, 0));
        due(-70, text(x, CLAIM, whole + "+"));
        due(-69, text(x, CLAIM, whole + "c"));
    }

    private static int given(String text, int c, int a, int s) {
        LeftoverRule x = new LeftoverRule();
        text(x, CLAIM, text);
        return x.law(CLAIM, c, a, s);
    }

    private static void whatTextsGive() {
        on("term 2, what TEXTS give");
        due(7, given("1+2*3", 0, 0, 0));
        due(9, given("(1+2)*3", 0, 0, 0));
        due(1, given("9-5-3", 0, 0, 0));
        due(2, given("36/6/3", 0, 0, 0));
        due(4, given("100%6%5", 0, 0, 0));
        due(6, given("12/4*2", 0, 0, 0));
        due(3, given("0-7/2+6", 0, 0, 0));
        due(3, given("c/2+6", -7, 0, 0));
        due(5, given("c%2+6", -7, 0, 0));
        due(7, given("c%(0-2)+6", 7, 0, 0));
        due(0, given("c/0", 7, 0, 0));
        due(0, given("c%0", 7, 0, 0));
        due(8, given("c/a+8", 7, 0, 0));
        due(1, given("c<a", 1, 2, 0));
        due(0, given("c<a", 2, 2, 0));
        due(1, given("c>a", 3, 2, 0));
        due(0, given("c>a", 2, 2, 0));
        due(1, given("c=a", 2, 2, 0));
        due(0, given("c=a", 2, 3, 0));
        due(1, given("c|a", 0, 4, 0));
        due(1, given("c|a", -4, 0, 0));
        due(0, given("c|a", 0, 0, 0));
        due(1, given("c&a", 4, -4, 0));
        due(0, given("c&a", 4, 0, 0));
        due(0, given("c&a", 0, 4, 0));
        due(1, given("!c", 0, 0, 0));
        due(0, given("!c", -3, 0, 0));
        due(1, given("!!c", 9, 0, 0));
        due(1, given("c|a&s", 5, 0, 0));
        due(0, given("(c|a)&s", 5, 0, 0));
        due(1, given("c<a+1", 2, 2, 0));
        due(1, given("!c+1>1", 0, 0, 0));
        due(1, given("c<a&a<s", 1, 2, 3));
        due(3, given("(c<a)+(a<s)+(s>c)", 1, 2, 3));
        due(1, given("2147*1000*1000+483647+c<0", 1, 0, 0));
        due(1, given("c*a=0-2", Integer.MAX_VALUE, 2, 0));
        due(1, given("c/(0-1)=c", Integer.MIN_VALUE, 0, 0));
        due(1, given("c%(0-1)=0", Integer.MIN_VALUE, 0, 0));
        due(1, given("c-1>0", Integer.MIN_VALUE, 0, 0));
        due(12, given("0012", 0, 0, 0));
        due(999, given("1000", 0, 0, 0));
        due(999, given("999", 0, 0, 0));
        due(0, given("0-1", 0, 0, 0));
        on("term 2, where TEXTS are asked");
        LeftoverRule x = with(13, 25, 3, 0, 40, 6);
        text(x, CLAIM, "c*100+a*10+s");
        due(525, x.dishIs(0, 5));
        due(440, x.dishIs(1, 5));
        x.meal(0);
        due(635, x.dishIs(0, 5));
        text(x, KEEPING, "d=1&f<r|d=2&f>r");
        due(0, x.dishIs(1, 7));
        due(0, x.dishIs(0, 7));
        x.season(1, 2);
        due(1, x.dishIs(1, 7));
        x.meal(0);
        due(0, x.dishIs(1, 7));
        x.season(1, 4);
        due(1, x.dishIs(1, 7));
        text(x, KEEPING, "d=6");
        for (int day = 2; day < 16; day++) {
            due(day % 7 == 6 ? 1 : 0, x.dishIs(0, 7));
            x.meal(0);
        }
        text(x, KEEPING, "5");
        due(1, x.dishIs(1, 7));
        text(x, KEEPING, "0-5");
        due(0, x.dishIs(0, 7));
    }

    private static void untold() {
        on("11 untell");
        LeftoverRule x = new LeftoverRule();
        due(0, x.untell(CLAIM));
        text(x, CLAIM, "c+1");
        text(x, KEEPING, "f=r");
        due(BEYOND, x.untell(2));
        due(BEYOND, x.untell(-1));
        due(1, x.untell(CLAIM));
        due(0, x.untell(CLAIM));
        due(4, x.law(CLAIM, 4, 0, 0));
        due(0, x.law(KEEPING, 4, 5, 0));
        due(1, x.untell(KEEPING));
        text(x, KEEPING, "0");
        due(1, x.untell(KEEPING));
        due(1, x.law(KEEPING, 4, 5, 0));
        due(0, x.untell(KEEPING));
    }

    private static void laws() {
        on("12 law");
        LeftoverRule x = new LeftoverRule();
        due(BEYOND, x.law(2, 0, 0, 0));
        due(BEYOND, x.law(-1, 0, 0, 0));
        due(0, x.law(CLAIM, -1, 9, 9));
        due(0, x.law(CLAIM, 0, 9, 9));
        due(999, x.law(CLAIM, 999, 0, 0));
        due(999, x.law(CLAIM, 1000, 0, 0));
        due(1, x.law(KEEPING, 3, 4, 0));
        due(1, x.law(KEEPING, 4, 3, 0));
        due(1, x.law(KEEPING, 3, 3, 6));
        due(0, x.law(KEEPING, 3, 5, 0));
        due(0, x.law(KEEPING, 5, 3, 0));
        due(0, x.law(KEEPING, Integer.MIN_VALUE, Integer.MAX_VALUE, 0));
        due(0, x.law(KEEPING, Integer.MAX_VALUE, Integer.MIN_VALUE, 0));
        due(0, x.law(KEEPING, Integer.MIN_VALUE, 0, 0));
        due(1, x.law(KEEPING, Integer.MIN_VALUE, Integer.MIN_VALUE + 1, 0));
        text(x, CLAIM, "c*100+a*10+s");
        due(123, x.law(CLAIM, 1, 2, 3));
        text(x, KEEPING, "f=1&r=2&d=3");
        due(1, x.law(KEEPING, 1, 2, 3));
        due(0, x.law(KEEPING, 2, 1, 3));
        text(x, KEEPING, "f");
        due(1, x.law(KEEPING, 7, 0, 0));
        due(0, x.law(KEEPING, -7, 0, 0));
    }

    private static void aMeal() {
        on("13 meal");
        LeftoverRule x = with(0, 30, 3);
        due(BEYOND, x.meal(-1));
        due(BEYOND, x.meal(100));
        due(0, x.count(2));
        due(0, x.meal(10));
        due(20, x.dishIs(0, 2));
        due(1, x.dishIs(0, 3));
        due(79, x.meal(99));
        due(0, x.dishIs(0, 2));
        due(1, x.dishIs(0, 3));
        due(79, x.count(3));
        due(0, x.meal(0));
        due(7, x.meal(7));
        due(86, x.count(3));
        due(4, x.count(2));
        LeftoverRule empty = new LeftoverRule();
        due(5, empty.meal(5));
        due(1, empty.count(2));
        for (int i = 0; i < 16; i++) {
            empty.meals(60, 99);
        }
        due(5 + 16 * 5940, empty.count(3));
        empty.meals(50, 99);
        due(99995, empty.count(3));
        due(3, empty.meal(3));
        due(99998, empty.count(3));
        due(5, empty.meal(5));
        due(99999, empty.count(3));
        for (int i = 0; i < 149; i++) {
            empty.meals(60, 0);
        }
        due(9953, empty.count(2));
        empty.meals(45, 1);
        due(9998, empty.count(2));
        due(4, empty.meal(4));
        due(9999, empty.count(2));
        due(STATE, empty.meal(4));
        due(BEYOND, empty.meal(100));
        due(9999, empty.count(2));
        due(99999, empty.count(3));
    }

    private static void inWhichOrderIsEaten() {
        on("term 1, a MEAL");
        // CLAIMS 3, 1, 1, 9, 6: dish 3 has THE SAY, and dish 4 isn't in keeping with it.
        LeftoverRule x = with(0, 39, 4, 0, 15, 5, 0, 12, 4, 19, 5, 4, 16, 9, 6);
        due(3, x.rules());
        due(0, x.meal(20));
        int[] sizes = some(39, 0, 7, 5, 9);
        int[] ages = some(1, 0, 1, 1, 1);
        for (int i = 0; i < 5; i++) {
            due(sizes[i], x.dishIs(i, 2));
            due(ages[i], x.dishIs(i, 3));
        }
        due(99 - 51, x.meal(99));
        due(9, x.count(1));
        due(4, x.rules());
        due(9, x.dishIs(4, 2));
        due(90, x.meal(99));
        due(0, x.count(1));
        due(NONE, x.rules());
        // What has no SIZE is not eaten, and doesn't age.
        LeftoverRule gone = with(0, 0, 0, 20, 3, 0);
        due(0, gone.meal(2));
        due(0, gone.dishIs(0, 3));
        due(0, gone.dishIs(1, 2));
        due(1, gone.dishIs(1, 3));
        // Nobody is in keeping, not even the one that has THE SAY.
        LeftoverRule strict = with(0, 30, 3, 0, 20, 3);
        text(strict, KEEPING, "0");
        due(9, strict.meal(9));
        due(50, strict.count(1));
        // The one that has THE SAY need not be eaten last: here it isn't in keeping with itself.
        text(strict, KEEPING, "f<r");
        strict.season(1, 2);
        due(0, strict.meal(9));
        due(11, strict.dishIs(1, 2));
        // CLAIMS are as the MEAL begins: as it is eaten, dish 1 comes to claim less than dish 0.
        LeftoverRule held = with(0, 20, 0, 0, 19, 0);
        text(held, CLAIM, "100-s");
        due(1, held.rules());
        due(0, held.meal(25));
        due(0, held.dishIs(0, 2));
        due(14, held.dishIs(1, 2));
    }

    private static void someMeals() {
        on("14 meals");
        LeftoverRule x = with(0, 30, 3);
        due(BEYOND, x.meals(0, 0));
        due(BEYOND, x.meals(61, 0));
        due(BEYOND, x.meals(-1, 0));
        due(BEYOND, x.meals(1, -1));
        due(BEYOND, x.meals(1, 100));
        due(24, x.meals(3, 2));
        due(3, x.count(2));
        due(0, x.count(3));
        // AGES 4, 5, 6: 24 - 2; 22 - 2 - 1; 19 - 2 - 1.
        due(16, x.meals(3, 2));
        due(6, x.count(2));
        due(16, x.count(1));
        for (int i = 0; i < 166; i++) {
            x.meals(60, 0);
        }
        due(9966, x.count(2));
        due(STATE, x.meals(34, 0));
        due(BEYOND, x.meals(34, 100));
        due(9966, x.count(2));
        due(0, x.meals(33, 0));
        due(STATE, x.meals(1, 0));
        due(9999, x.count(2));
    }

    private static int drawn(int z) {
        return z * 1103515245 + 12345;
    }

    private static void mealsByDraws() {
        on("15 loose");
        LeftoverRule x = new LeftoverRule();
        due(BEYOND, x.loose(0));
        due(BEYOND, x.loose(31));
        due(BEYOND, x.loose(-5));
        // Without DISHES it is one draw a MEAL.
        int z = drawn(1);
        due((z >>> 8) % 30, x.loose(1));
        due(z, x.count(7));
        due((z >>> 8) % 30, x.count(3));
        int sum = 0;
        for (int i = 0; i < 30; i++) {
            z = drawn(z);
            sum += (z >>> 8) % 30;
        }
        due(sum, x.loose(30));
        due(z, x.count(7));
        due(31, x.count(2));
        // A DISH of SIZE 0 is there all the same.
        for (int seed = 0; seed < 40; seed++) {
            LeftoverRule y = with(30, 0, 3, 30, 0, 3, 30, 0, 3, 30, 95, 9);
            due(1, y.seed(seed));
            int a = drawn(seed);
            int end = drawn(a);
            int guest = -1;
            int more = 0;
            if ((a >>> 8) % 4 == 0) {
                guest = (end >>> 8) % 4;
                more = (drawn(end) >>> 8) % 20;
                end = drawn(drawn(end));
            }
            int hunger = (end >>> 8) % 30;
            int big = guest == 3 ? Math.min(99, 95 + more) : 95;
            int bite = Math.min(hunger, big);
            due(hunger - bite, y.loose(1));
            due(end, y.count(7));
            due(big - bite, y.dishIs(3, 2));
            for (int i = 0; i < 3; i++) {
                due(guest == i ? more : 0, y.dishIs(i, 2));
            }
        }
        // The draws for a guest are made with one DISH, too.
        LeftoverRule one = with(30, 0, 3);
        for (int seed = 0; seed < 20; seed++) {
            one.seed(seed);
            one.loose(1);
            boolean guest = (drawn(seed) >>> 8) % 4 == 0;
            due(guest ? drawn(drawn(drawn(drawn(seed)))) : drawn(drawn(seed)), one.count(7));
        }
        LeftoverRule late = new LeftoverRule();
        for (int i = 0; i < 166; i++) {
            late.meals(60, 0);
        }
        due(9960, late.count(2));
        late.meals(20, 0);
        due(STATE, late.loose(20));
        due(1, late.count(7));
        due(BEYOND, late.loose(31));
        late.loose(19);
        due(9999, late.count(2));
        due(STATE, late.loose(1));
    }

    private static void seeds() {
        on("16 seed");
        LeftoverRule x = new LeftoverRule();
        due(1, x.seed(-7));
        due(-7, x.count(7));
        due(-7, x.seed(Integer.MIN_VALUE));
        due(Integer.MIN_VALUE, x.seed(BEYOND));
        // A number is no ERROR, whatever it is.
        due(BEYOND, x.count(7));
        due(BEYOND, x.seed(0));
        due(0, x.told(1));
        due(12345 / 256 % 30, x.loose(1));
        due(12345, x.count(7));
    }

    private static void then() {
        on("17 then");
        LeftoverRule x = with(0, 30, 3, 20, 25, 3);
        due(BEYOND, x.then(-1, 0, 0));
        due(BEYOND, x.then(61, 0, 0));
        due(BEYOND, x.then(1, -1, 0));
        due(BEYOND, x.then(1, 100, 0));
        due(BEYOND, x.then(1, 1, 2));
        due(BEYOND, x.then(1, 1, -1));
        due(55, x.then(0, 9, 0));
        due(1, x.then(0, 9, 1));
        due(44, x.then(1, 10, 0));
        due(1, x.then(1, 10, 1));
        due(24, x.then(1, 30, 0));
        due(0, x.then(60, 99, 0));
        due(-1, x.then(60, 99, 1));
        due(55, x.count(1));
        due(0, x.count(2));
        due(0, x.count(3));
        due(0, x.dishIs(0, 3));
        due(0, x.told(2));
        // DAY goes beyond 9999 in thought: 9999 by 7 leaves 3, so the next is a Thursday.
        LeftoverRule late = new LeftoverRule();
        for (int i = 0; i < 166; i++) {
            late.meals(60, 0);
        }
        late.meals(39, 0);
        late.dish(30, 9, 0);
        late.dish(0, 99, 0);
        due(1, late.then(0, 0, 1));
        due(0, late.then(1, 0, 1));
        due(1, late.then(2, 0, 1));
        due(9999, late.count(2));
        // Its second MEAL is on that Thursday, when bread is eaten last.
        due(3, late.gone(0, 5));
    }

    private static void gone() {
        on("18 gone");
        LeftoverRule x = with(0, 30, 3, 35, 20, 9, 0, 0, 0);
        due(BEYOND, x.gone(-1, 0));
        due(BEYOND, x.gone(3, 0));
        due(BEYOND, x.gone(0, -1));
        due(BEYOND, x.gone(0, 100));
        due(0, x.gone(2, 0));
        due(1, x.gone(0, 30));
        // The bread, not in keeping, has THE SAY in between.
        due(3, x.gone(0, 29));
        // It only spoils: 5 at AGES 5 to 9, 10 at 10 to 14, 15 at 15 to 19.
        due(19, x.gone(0, 0));
        due(NONE, x.gone(1, 0));
        due(30, x.dishIs(0, 2));
        due(0, x.count(2));
        LeftoverRule bread = with(30, 60, 0, 59, 61, 9);
        text(bread, CLAIM, "999-s-a");
        due(0, bread.rules());
        due(60, bread.gone(0, 1));
        due(NONE, bread.gone(1, 1));
        bread.serve(0, 61);
        due(NONE, bread.gone(0, 1));
    }

    private static void needs() {
        on("19 needs");
        LeftoverRule x = with(0, 30, 3);
        due(BEYOND, x.needs(-1));
        due(BEYOND, x.needs(21));
        due(NONE, x.needs(0));
        due(30, x.needs(1));
        due(15, x.needs(2));
        due(10, x.needs(3));
        due(0, x.needs(20));
        due(1, x.needs(15));
        x.dish(0, 70, 3);
        due(NONE, x.needs(1));
        x.serve(1, 69);
        due(99, x.needs(1));
        due(2, x.told(2));
        x.serve(0, 0);
        x.serve(1, 0);
        due(0, x.needs(0));
        due(0, x.needs(7));
        due(0, x.count(2));
    }

    private static void clears() {
        on("20 clears");
        LeftoverRule x = with(0, 35, 3, 0, 45, 4, 0, 25, 6, 0, 45, 6, 0, 15, 5);
        due(BEYOND, x.clears(-1, 0, 0, 0));
        due(BEYOND, x.clears(5, 0, 0, 0));
        due(BEYOND, x.clears(0, -1, 0, 0));
        due(BEYOND, x.clears(0, 7, 0, 0));
        due(BEYOND, x.clears(0, 0, -1, 0));
        due(BEYOND, x.clears(0, 0, 100, 0));
        due(BEYOND, x.clears(0, 0, 0, -1));
        due(BEYOND, x.clears(0, 0, 0, 2));
        due(0, x.clears(1, 0, 0, 0));
        due(0, x.clears(1, 0, 0, 1));
        due(1, x.clears(3, 0, 0, 0));
        due(2, x.clears(3, 0, 0, 1));
        due(2, x.clears(0, 0, 0, 0));
        due(10, x.clears(0, 0, 0, 1));
        due(4, x.clears(4, 0, 0, 0));
        due(15, x.clears(4, 0, 0, 1));
        due(165, x.count(1));
        x.serve(2, 0);
        due(NONE, x.clears(2, 0, 0, 0));
        due(NONE, x.clears(2, 6, 99, 1));
        due(3, x.clears(4, 0, 0, 0));
        due(11, x.clears(4, 0, 0, 1));
        // Without 0 or without 1, the other one is eaten up, and 2 comes to rule: the least set is due.
        LeftoverRule either = with(0, 40, 3, 0, 40, 3, 0, 30, 9);
        due(2, either.clears(0, 1, 20, 0));
        due(6, either.clears(0, 1, 20, 1));
        due(0, either.clears(2, 1, 80, 0));
        due(1, either.clears(2, 1, 40, 0));
        due(1, either.clears(2, 1, 40, 1));
        due(NONE, either.clears(0, 1, 99, 1));
        // The least that can be left is enough.
        LeftoverRule last = with(39, 1, 0, 0, 30, 0);
        due(1, last.clears(0, 1, 0, 0));
        due(2, last.clears(0, 1, 0, 1));
        due(NONE, last.clears(0, 1, 1, 0));
        due(110, either.count(1));
        due(0, either.count(2));
    }

    private static void brings() {
        on("21 brings");
        LeftoverRule x = with(0, 30, 3, 0, 20, 5, 0, 9, 6);
        due(BEYOND, x.brings(0, 0));
        due(BEYOND, x.brings(100, 0));
        due(BEYOND, x.brings(5, -1));
        due(BEYOND, x.brings(5, 2));
        due(2, x.brings(1, 0));
        due(31, x.brings(1, 1));
        due(4, x.brings(99, 0));
        due(30 + 20 + 99, x.brings(99, 1));
        // Dish 0 keeps THE SAY: 30 in keeping with it, and 10 more by FLAVOURS 2, 3 and 4.
        due(2, x.brings(10, 0));
        due(40, x.brings(10, 1));
        // The new one has THE SAY: by FLAVOUR 4, 30 + 20 + 40; by 5, 20 + 9 + 40.
        due(4, x.brings(40, 0));
        due(90, x.brings(40, 1));
        due(3, x.count(0));
        due(59, x.count(1));
        text(x, KEEPING, "0");
        due(0, x.brings(40, 0));
        due(0, x.brings(40, 1));
        x.untell(KEEPING);
        // It is of AGE 0 and m 0, however old the last one thought of is.
        x.meals(4, 0);
        due(30, x.dishIs(0, 2));
        due(2, x.brings(60, 0));
        due(90, x.brings(60, 1));
        x.serve(0, 0);
        x.serve(1, 0);
        x.serve(2, 0);
        due(STATE, x.brings(5, 0));
        due(BEYOND, x.brings(0, 0));
        x.serve(0, 1);
        for (int i = 3; i < 8; i++) {
            x.dish(0, 1, 0);
        }
        due(7, x.brings(5, 1) + (x.count(0) == 8 ? 1 : 0));
        x.dish(0, 1, 0);
        due(STATE, x.brings(5, 1));
    }

    private static void odds() {
        on("22 odds");
        LeftoverRule x = with(0, 30, 3, 0, 20, 5, 0, 10, 4);
        due(BEYOND, x.odds(-1));
        due(BEYOND, x.odds(2));
        due(2, x.odds(0));
        due(3, x.odds(1));
        x.season(1, 4);
        due(1, x.odds(0));
        due(1, x.odds(1));
        text(x, KEEPING, "0");
        due(0, x.odds(0));
        due(1, x.odds(1));
        text(x, KEEPING, "f>r");
        x.serve(2, 11);
        due(31, x.odds(0));
        due(61, x.odds(1));
        for (int i = 0; i < 3; i++) {
            x.serve(i, 0);
        }
        due(STATE, x.odds(0));
        due(BEYOND, x.odds(2));
        due(STATE, new LeftoverRule().odds(1));
    }

    private static void fits() {
        on("23 fits");
        LeftoverRule x = with(0, 30, 3, 0, 20, 4);
        due(BEYOND, x.fits(-1, 0));
        due(BEYOND, x.fits(4, 0));
        due(BEYOND, x.fits(0, -1));
        due(BEYOND, x.fits(0, 2));
        due(NONE, x.fits(0, 0));
        due(NONE, x.fits(0, 1));
        lay(x, 0, 8, 25, 0);
        due(1, x.fits(0, 0));
        due(25, x.fits(0, 1));
        lay(x, 0, 16, 30);
        due(21, x.fits(0, 0));
        due(0, x.fits(0, 1));
        lay(x, 0, 32, 0, 0);
        due(50, x.fits(0, 0));
        due(50, x.fits(0, 1));
        lay(x, 0, 32, 30, 21);
        due(0, x.fits(0, 0));
        due(NONE, x.fits(0, 1));
        // There is no DISH 2.
        lay(x, 0, 8, 0, 0, 0);
        due(0, x.fits(0, 0));
        due(NONE, x.fits(0, 1));
        lay(x, 3, 8);
        due(100, x.fits(3, 0));
        due(0, x.fits(3, 1));
        // What spoils counts, too.
        x.meals(4, 0);
        lay(x, 1, 8, 29, 10);
        due(1, x.fits(1, 0));
        due(9, x.fits(1, 1));
        due(50, x.count(1));
        due(4, x.count(2));
    }

    private static void voices() {
        on("24 voice");
        // Number 2 is the one that speaks.
        int k = 2;
        int m = 7;
        int x = 10;
        int[][] want = {
            {x + k, (x + k) * 2, (x + k) * 2 - m, x / (m - k)},
            {x + k - 4, (x + k - 4) * 2, (x + k - 4) * 2 - m, x / (m - k) + (1 + k - 4) * 2},
            {x + k, 0 - (x + k) * 2, 0 - (x + k) * 2 - m, x / (m - k)},
            {x + k, (x + k) * 2, (x / 2 + k) * 2 - m, x / (m - k)},
            {(x + k - 4) * 3, (x + k - 4) * 6, ((x + k - 4) * 6 - m) ^ k, x / (m - k) + (1 + k - 4) * 6},
            {x + k, 0 - (x + 1 + k) * 2, 0 - (x + 1 + k) * 2 - m, x / (m - k)},
            {9, 18 + m, 18 + m - m, x / (m - k)}};
        for (int kind = 0; kind < 7; kind++) {
            LeftoverRule y = with(0, 1, 1, 0, 1, 1, 10 * kind + m, 1, 1);
            for (int voice = 0; voice < 4; voice++) {
                promise = "24 voice " + voice + " of kind " + kind;
                due(want[kind][voice], y.voice(2, voice, x));
            }
            due(BEYOND, y.voice(2, 4, x));
            due(BEYOND, y.voice(2, -1, x));
            due(BEYOND, y.voice(3, 0, x));
            due(BEYOND, y.voice(-1, 0, x));
        }
        on("24 voice, edges");
        LeftoverRule y = with(0, 1, 1, 10, 1, 1, 42, 1, 1, 31, 1, 1);
        due(PARTED, y.voice(0, 3, 5));
        y.become(1, 11);
        due(PARTED, y.voice(1, 3, 5));
        due(PARTED, y.voice(2, 3, 5));
        due(3, y.told(6));
        due(Integer.MIN_VALUE, y.voice(3, 0, Integer.MAX_VALUE - 2));
        due(-2, y.voice(3, 1, Integer.MAX_VALUE - 3));
        due((-3 + 3) * 2 - 1, y.voice(3, 2, -7));
        due(-7 / -2, y.voice(3, 3, -7));
        y.become(1, 0);
        // x by -1 wraps; and what would be an ERROR is a number here.
        due(Integer.MIN_VALUE, y.voice(1, 3, Integer.MIN_VALUE));
        due(BEYOND, y.voice(0, 0, BEYOND));
        due(0, y.told(1));
        due(3, y.told(6));
    }

    private static void traceIs(LeftoverRule x, int... bodies) {
        asked++;
        boolean so = x.count(6) == bodies.length;
        for (int i = 0; i < bodies.length; i++) {
            so = so && x.body(i) == bodies[i];
        }
        if (!so || x.body(bodies.length) != NONE) {
            wrong++;
            StringBuilder got = new StringBuilder();
            for (int i = 0; i < x.count(6); i++) {
                got.append(' ').append(x.body(i));
            }
            int line = new Throwable().getStackTrace()[1].getLineNumber();
            System.out.println(promise + ", line " + line + ": THE TRACE was" + got);
        }
    }

    private static void theTrace() {
        on("25 body");
        LeftoverRule x = with(9, 1, 1);
        due(NONE, x.body(0));
        due(NONE, x.body(-1));
        x.voice(0, 0, 1);
        traceIs(x, 10);
        x.voice(0, 1, 1);
        traceIs(x, 11, 10);
        x.voice(0, 2, 1);
        traceIs(x, 12, 11, 10);
        x.voice(0, 3, 1);
        traceIs(x, 13);
        x.become(0, 19);
        x.voice(0, 2, 1);
        traceIs(x, 12, 11, 20, 10);
        x.voice(0, 3, 1);
        traceIs(x, 21, 13, 11, 20, 10);
        x.become(0, 29);
        x.voice(0, 2, 1);
        traceIs(x, 12, 30, 11, 10);
        x.become(0, 39);
        x.voice(0, 2, 1);
        traceIs(x, 40, 12, 11, 10);
        x.become(0, 49);
        x.voice(0, 0, 1);
        traceIs(x, 50, 20, 10);
        x.voice(0, 2, 1);
        traceIs(x, 51, 12, 11, 50, 20, 10);
        x.voice(0, 3, 1);
        traceIs(x, 21, 13, 11, 50, 20, 10);
        x.become(0, 59);
        x.voice(0, 1, 1);
        traceIs(x, 60, 30, 11, 10);
        x.become(0, 69);
        x.voice(0, 2, 1);
        traceIs(x, 12, 71, 11, 70);
        x.voice(0, 0, 1);
        traceIs(x, 70);
        x.voice(0, 4, 1);
        x.voice(1, 0, 1);
        traceIs(x, 70);
        x.restore();
        traceIs(x, 70);
        // The latest voice() was parted: what began, began.
        x.become(0, 10);
        due(PARTED, x.voice(0, 3, 1));
        traceIs(x, 21, 13);
        due(NONE, x.body(Integer.MIN_VALUE));
        due(NONE, x.body(Integer.MAX_VALUE));
    }

    private static void sheets() {
        on("26 sheet");
        LeftoverRule x = new LeftoverRule();
        due(BEYOND, x.sheet(-1, 8, 1));
        due(BEYOND, x.sheet(4, 8, 1));
        due(BEYOND, x.sheet(0, 7, 1));
        due(BEYOND, x.sheet(0, 64, 1));
        due(BEYOND, x.sheet(0, -8, -1));
        due(BEYOND, x.sheet(4, 8, -1));
        due(STATE, x.sheet(0, 8, -1));
        due(STATE, x.sheet(0, 16, Integer.MIN_VALUE));
        due(BEYOND, x.sheet(0, 8, 25));
        due(NONE, x.put(0, 0, 0));
        due(1, x.sheet(0, 0, -9));
        due(1, x.sheet(0, 0, 999));
        due(NONE, x.put(0, 0, 0));
        due(1, x.sheet(3, 32, 24));
        due(1, x.put(3, 23, 5));
        due(BEYOND, x.put(3, 24, 5));
        due(1, x.sheet(3, 16, 0));
        due(BEYOND, x.put(3, 0, 5));
        x.dish(0, 9, 0);
        lay(x, 1, 8, 40);
        due(1, x.sheet(1, 8, 1));
        due(1, x.serves(1));
        due(0, x.dishIs(0, 2));
        lay(x, 1, 8, 40);
        due(STATE, x.sheet(1, 8, -1));
        due(BEYOND, x.sheet(1, 8, 25));
        due(1, x.serves(1));
        due(40, x.dishIs(0, 2));
        due(1, x.sheet(1, 0, 1));
        due(NONE, x.serves(1));
    }

    private static void puts() {
        on("27 put");
        LeftoverRule x = with(0, 1, 0, 0, 1, 0);
        due(BEYOND, x.put(-1, 0, 0));
        due(BEYOND, x.put(4, 0, 0));
        due(NONE, x.put(0, -1, 0));
        x.sheet(0, 8, 2);
        x.sheet(1, 16, 2);
        x.sheet(2, 32, 2);
        due(BEYOND, x.put(0, -1, 0));
        due(BEYOND, x.put(0, 2, 0));
        due(BEYOND, x.put(0, Integer.MAX_VALUE, 0));
        due(1, x.put(0, 1, 256 + 7));
        due(1, x.put(1, 1, -65536 + 9));
        due(1, x.put(2, 1, 65536 + 9));
        due(2, x.serves(0));
        due(7, x.dishIs(1, 2));
        due(2, x.serves(1));
        due(9, x.dishIs(1, 2));
        due(1, x.serves(2));
        due(0, x.dishIs(0, 2));
        x.put(1, 0, 256);
        due(0, x.serves(1));
        // Numbers are signed, of 8 and 16 bits as of 32.
        x.put(0, 0, 255);
        due(0, x.serves(0));
        text(x, CLAIM, "255");
        due(0, x.judge(0));
    }

    private static void moves() {
        on("28 move");
        LeftoverRule x = with(0, 1, 0, 0, 2, 0, 0, 3, 0, 0, 4, 0);
        due(BEYOND, x.move(-1, 0, 0, 0, 0));
        due(BEYOND, x.move(0, 0, 4, 0, 0));
        due(BEYOND, x.move(4, 0, 0, 0, 0));
        due(NONE, x.move(0, 0, 1, 0, 0));
        lay(x, 0, 8, 11, 12, 13, 14);
        due(NONE, x.move(0, 0, 1, 0, -1));
        due(NONE, x.move(1, 0, 0, 0, -1));
        lay(x, 1, 16, 21, 22);
        due(KIND, x.move(0, 0, 1, 0, 1));
        due(KIND, x.move(0, -1, 1, 0, 0));
        lay(x, 1, 8, 21, 22);
        due(BEYOND, x.move(0, 0, 1, 0, -1));
        due(BEYOND, x.move(0, -1, 1, 0, 1));
        due(BEYOND, x.move(0, 0, 1, -1, 1));
        due(BEYOND, x.move(0, 0, 1, 0, 3));
        due(BEYOND, x.move(1, 1, 0, 0, 2));
        due(BEYOND, x.move(0, 5, 1, 0, 0));
        due(BEYOND, x.move(0, 0, 1, 3, 0));
        due(BEYOND, x.move(0, Integer.MAX_VALUE, 1, 0, 1));
        due(BEYOND, x.move(0, 1, 1, 0, Integer.MAX_VALUE));
        due(BEYOND, x.move(0, 0, 1, Integer.MAX_VALUE, Integer.MAX_VALUE));
        due(0, x.move(0, 4, 1, 2, 0));
        due(2, x.move(0, 2, 1, 0, 2));
        due(2, x.serves(1));
        due(13, x.dishIs(0, 2));
        due(14, x.dishIs(1, 2));
        // Onto itself, as they all were.
        due(3, x.move(0, 0, 0, 1, 3));
        x.serves(0);
        int[] upward = some(11, 11, 12, 13);
        for (int i = 0; i < 4; i++) {
            due(upward[i], x.dishIs(i, 2));
        }
        due(2, x.move(0, 2, 0, 1, 2));
        x.serves(0);
        int[] downward = some(11, 12, 13, 13);
        for (int i = 0; i < 4; i++) {
            due(downward[i], x.dishIs(i, 2));
        }
    }

    private static void sheetsServe() {
        on("29 serves");
        LeftoverRule x = with(0, 1, 0, 0, 2, 0, 0, 3, 0);
        due(BEYOND, x.serves(-1));
        due(BEYOND, x.serves(4));
        due(NONE, x.serves(0));
        lay(x, 0, 16, 99, 0, 100);
        due(2, x.serves(0));
        due(99, x.dishIs(0, 2));
        due(0, x.dishIs(1, 2));
        due(3, x.dishIs(2, 2));
        lay(x, 0, 16, 5, -1, 7);
        due(1, x.serves(0));
        due(5, x.dishIs(0, 2));
        due(3, x.dishIs(2, 2));
        lay(x, 0, 32, 6, 7, 8, 9);
        due(3, x.serves(0));
        due(21, x.count(1));
        lay(x, 0, 32, 5);
        due(1, x.serves(0));
        due(5 + 7 + 8, x.count(1));
        lay(x, 0, 8);
        due(0, x.serves(0));
        due(2, x.told(1) + x.told(2) - 1);
    }

    private static void sheetsJudge() {
        on("30 judge");
        LeftoverRule x = with(19, 30, 0, 0, 20, 0, 25, 30, 0);
        due(BEYOND, x.judge(-1));
        due(BEYOND, x.judge(4));
        due(NONE, x.judge(0));
        lay(x, 0, 16, 12, 2, 6);
        due(3, x.judge(0));
        x.put(0, 1, 3);
        due(1, x.judge(0));
        x.put(0, 0, 3);
        due(0, x.judge(0));
        lay(x, 0, 32, 12, 2, 6, 0);
        due(3, x.judge(0));
        lay(x, 0, 8, 12);
        due(1, x.judge(0));
        // What has no SIZE CLAIMS, too.
        x.serve(0, 0);
        lay(x, 0, 8, 9);
        due(1, x.judge(0));
        text(x, CLAIM, "c*100");
        lay(x, 0, 16, 900, 200, 600);
        due(3, x.judge(0));
        lay(x, 0, 32, 900, 200, 65536 + 600);
        due(2, x.judge(0));
    }

    private static void images() {
        on("31 image");
        LeftoverRule x = with(14, 20, 2);
        on("32 restore");
        due(NONE, x.restore());
        due(1, x.image());
        x.meals(3, 2);
        due(2, x.image());
        x.meals(2, 2);
        due(3, x.restore());
        due(3, x.count(2));
        due(14, x.dishIs(0, 2));
        x.dish(0, 1, 1);
        due(3, x.restore());
        due(1, x.count(0));
        due(BEYOND, x.dishIs(1, 0));
        due(3, x.image());
        due(1, x.told(2));
    }

    private static void whatAnImageKeeps() {
        on("31 and 32, all");
        LeftoverRule x = with(14, 20, 2, 25, 30, 4);
        text(x, CLAIM, "c+7");
        text(x, KEEPING, "f=r");
        feed(x, "s+");
        x.tell(5);
        x.tell(6);
        x.seed(99);
        x.meals(2, 40);
        int hungry = x.count(3);
        int left = x.count(1);
        due(1, x.image());
        x.become(0, 57);
        x.season(0, 9);
        x.serve(0, 77);
        x.untell(CLAIM);
        text(x, KEEPING, "1");
        feed(x, "abc");
        x.check();
        x.tell(1);
        x.loose(5);
        x.dish(0, 5, 5);
        x.meals(9, 99);
        lay(x, 2, 8, 44);
        x.voice(0, 3, 1);
        due(2, x.restore());
        due(1, x.dishIs(0, 0));
        due(4, x.dishIs(0, 1));
        due(2, x.dishIs(0, 4));
        due(4, x.dishIs(1, 4));
        due(left, x.count(1));
        due(2, x.count(0));
        due(hungry, x.count(3));
        due(2, x.count(4));
        due(2, x.count(5));
        due(99, x.count(7));
        due(12, x.law(CLAIM, 5, 0, 0));
        due(0, x.law(KEEPING, 5, 4, 0));
        feed(x, "1");
        due(1, x.text(CLAIM));
        due(4, x.law(CLAIM, 0, 0, 3));
        // AGES 2 (or 0, once eaten up) are not 5.
        due(1, x.check());
        // SHEETS, THE TRACE, told() and how often it was done are no part of it.
        due(1, x.serves(2));
        due(44, x.dishIs(0, 2));
        traceIs(x, 13);
        due(0, x.told(1));
        due(2, x.image());
        text(x, CLAIM, "c+9");
        x.untell(KEEPING);
        due(2, x.restore());
        due(4, x.law(CLAIM, 0, 0, 3));
        due(0, x.law(KEEPING, 5, 4, 0));
        due(44, x.dishIs(0, 2));
        x.serve(0, 1);
        x.restore();
        due(44, x.dishIs(0, 2));
    }

    private static void whatIsNewBehindAnImage() {
        on("32 restore, numbers that wait and new DISHES");
        LeftoverRule x = new LeftoverRule();
        x.image();
        x.dish(39, 9, 0);
        x.meals(3, 0);
        due(3, x.dishIs(0, 3));
        x.tell(3);
        due(1, x.image() - 1);
        x.check();
        x.tell(8);
        due(3, x.restore());
        due(1, x.count(5));
        due(0, x.check());
        LeftoverRule y = new LeftoverRule();
        y.image();
        y.dish(39, 9, 0);
        y.meals(3, 0);
        due(0, y.restore());
        due(0, y.count(0));
        due(0, y.dish(35, 8, 1));
        due(0, y.dishIs(0, 3));
        due(5, y.dishIs(0, 1));
    }

    private static void checks() {
        on("33 tell");
        LeftoverRule x = with(30, 9, 0, 30, 9, 0);
        for (int i = 1; i <= 24; i++) {
            due(i, x.tell(0));
        }
        due(FULL, x.tell(0));
        due(24, x.count(5));
        on("34 check");
        due(3, x.check());
        due(0, x.count(5));
        due(0, x.check());
        x.meals(3, 0);
        x.tell(3);
        due(0, x.check());
        x.tell(3);
        x.tell(3);
        due(0, x.check());
        x.tell(3);
        x.tell(4);
        x.tell(9);
        due(2, x.check());
        due(0, x.count(5));
        x.tell(-3);
        due(1, x.check());
        x.tell(3);
        x.tell(3);
        x.tell(0);
        due(3, x.check());
        due(3, x.dishIs(0, 3));
        LeftoverRule none = new LeftoverRule();
        none.tell(0);
        due(1, none.check());
    }

    private static void counts() {
        on("35 count");
        LeftoverRule x = with(0, 30, 3, 0, 20, 9);
        x.meal(50);
        feed(x, "abc");
        x.tell(9);
        x.voice(0, 2, 1);
        int[] want = some(2, 20, 1, 20, 3, 1, 3, 1);
        for (int what = 0; what < 8; what++) {
            due(want[what], x.count(what));
        }
        due(BEYOND, x.count(8));
        due(BEYOND, x.count(-1));
    }

    private static void told() {
        on("36 told");
        LeftoverRule x = new LeftoverRule();
        due(BEYOND, x.told(0));
        due(1, x.told(1));
        due(BEYOND, x.told(7));
        due(BEYOND, x.told(-1));
        due(3, x.told(1));
        x.rules();
        x.body(0);
        due(2, x.told(2));
        x.odds(0);
        due(1, x.told(3));
        for (int i = 0; i < 26; i++) {
            x.tell(i);
        }
        due(2, x.told(4));
        x.dish(0, 1, 1);
        x.as(0, 3);
        due(1, x.told(5));
        x.voice(0, 3, 1);
        due(1, x.told(6));
        x.text(CLAIM);
        due(3, x.told(1));
        due(2, x.told(2));
    }
}
