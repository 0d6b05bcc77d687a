/** What is foretold: each sentence that names a boundary, at the boundary and on either side of it. */
public final class EdgesForetoldTest extends Asking {
    private static final int WITHOUT = 100000;

    /** By law 3 the first throw gains nothing: but with the threes that he gets for his six, he gets the twos. */
    private static final String TWICE = "coins 2 3 6;law 3;lies 1 2;lies 0 3;purse 0 2 1;greedy 0;";

    /** By law 3 each throw gains, and what it takes is thrown for the kind below. */
    private static final String CHAIN = "coins 5 6 7 8 9 10;law 3;lies 0 2;lies 1 2;lies 2 2;lies 3 2;lies 4 2;purse 0 5 1;";

    /** 0 and 1 stand in each other's way: who throws first leaves his coin to the other. */
    private static final String BOTH = "coins 2 3 5;law 3;lies 0 2;lies 1 3;purse 0 2 1;purse 1 1 1;greedy 0;greedy 1;";

    /** Who comes first takes the four ones. */
    private static final String HALF = "coins 1 3;lies 0 4;purse 0 1 1;purse 1 1 1;greedy 0;greedy 1;";

    public static void main(String[] args) {
        planOfVisits();
        planOfSeveral();
        planFromNow();
        gameOfVisits();
        gameOfSeveral();
        gameFromNow();
        leagueOfVisits();
        leagueOfBoth();
        meanOfVisits();
        meanOfChances();
        meanInLowestTerms();
        dryRounds();
        dryAtMost();
        baitOfThree();
        baitByHabit();
        end("what is foretold is as due");
    }

    private static void row(String told, int... due) {
        ThrownCoins x = told(told);
        for (int i = 0; i < due.length; i++) {
            due("plan(0, " + (i - 1) + ") of " + told, x.plan(0, i - 1), due[i]);
        }
        due("no more", x.plan(0, due.length - 1), NONE);
    }

    private static void planOfVisits() {
        sentence("PLAN: he at each VISIT of his (5 of them at most)");
        row(TWICE + "alone", 6);
        row(TWICE + "come 1 2 3", 6);
        row(TWICE + "come 0", 6, 0);
        row(TWICE + "come 0 0", 9, 3, 2);
        row(TWICE + "come 0 0 0", 9, 0, 3, 2);
        row(TWICE + "come 0 0 0 0", 9, 0, 0, 3, 2);
        row(TWICE + "come 0 0 0 0 0", 9, 0, 0, 0, 3, 2);
        row(TWICE + "come 1 0 2 0 3 0 1 0 2;come 0 3", 9, 0, 0, 0, 3, 2);
        row(CHAIN + "alone", 10);
        row(CHAIN + "come 0", 10 + 8, 6);
        row(CHAIN + "come 0 0", 10 + 8 + 7, 6, 5);
        row(CHAIN + "come 0 0 0", 10 + 8 + 7 + 6, 6, 5, 4);
        row(CHAIN + "come 0 0 0 0", 10 + 8 + 7 + 6 + 5, 6, 5, 4, 3);
        // Rather the sixes for another eight: then two eights are worth a nine.
        row(CHAIN + "come 0 0 0 0 0", 10 + 8 + 7 + 6 + 4 + 7, 6, 5, 4, 4, 5);
        ThrownCoins x = told(TWICE + "come 0 0 0 0 0 0");
        due("six visits", x.plan(0, NONE), NOT);
        due("six visits", x.plan(0, 0), NOT);
        due("six visits", x.plan(0, 6), NOT);
        due("another's plan", x.plan(1, NONE), 0);
        due("another's plan", x.plan(1, 0), NONE);
        due("go", x.go(1), 1);
        due("five are left", x.plan(0, NONE), 9);
        due("five are left", x.plan(0, 4), 2);
        due("no sixth", x.plan(0, 5), NONE);
        ThrownCoins full = told(TWICE + "come 0 1 1 1 1 1 1 1 0;come 1 1 1 1 1 1 1 1 0", "come 0 1 1 1 1 0");
        due("five of 24", full.plan(0, NONE), 9);
        due("the last of 24", full.plan(0, 4), 2);
        due("19 of 24", full.plan(1, NONE), NOT);
        sentence("plan: WORTH in the end (i NONE), his i-th VISIT, NONE: there are not so many; OUTSIDE: i below NONE");
        ThrownCoins y = told(TWICE + "come 0 0");
        due("i -2", y.plan(0, -2), OUTSIDE);
        due("i far below", y.plan(0, LEAST), OUTSIDE);
        due("i -1", y.plan(0, -1), 9);
        due("i 0", y.plan(0, 0), 3);
        due("i 1", y.plan(0, 1), 2);
        due("i 2", y.plan(0, 2), NONE);
        due("i 5", y.plan(0, 5), NONE);
        due("i far above", y.plan(0, MOST), NONE);
        due("person -1", y.plan(-1, 0), UNKNOWN);
        due("person 3", y.plan(3, 0), NONE);
        due("person 4", y.plan(4, 0), UNKNOWN);
        due("unknown comes first", y.plan(4, -2), UNKNOWN);
        due("outside comes ahead of not", x.plan(0, -2), OUTSIDE);
    }

    private static void planOfSeveral() {
        sentence("PLAN: a KIND that he has, or none: WORTH greatest in the end; of several the first");
        row("coins 1 2;lies 0 1;purse 0 1 1;come 0", 2, 0);
        row("coins 1 2;lies 0 2;purse 0 1 1;come 0", 2, 0);
        row("coins 1 2;lies 0 3;purse 0 1 1;come 0", 3, 2);
        row("coins 1 2;law 1;lies 0 2;purse 0 0 1;come 0", 2, 1);
        row("coins 1 2 4;lies 0 4;lies 1 1;purse 0 1 1;purse 0 2 1;come 0", 8, 2);
        row("coins 1 2 4;lies 0 4;lies 1 1;purse 0 2 1;come 0", 6, 3);
        row("coins 1 2 4;lies 0 4;lies 1 2;purse 0 1 1;purse 0 2 1;come 0", 10, 3);
        // A two for four ones leaves three twos for the four: 2 and 2. The four first gains 4, and the two then nothing.
        row("coins 1 2 4;lies 0 4;lies 1 2;purse 0 1 1;purse 0 2 1;come 0 0", 10, 0, 3);
        row("coins 1 2 3;lies 0 4;lies 1 2;purse 0 1 1;purse 0 2 1;come 0 0", 5 + 5, 0, 3);
        // Either the twos for a three and then two threes for a five, or all of them for the five at once.
        row("coins 2 3 5;lies 0 2;lies 1 1;purse 0 1 1;purse 0 2 1;purse 1 1 1;greedy 1;come 0 1 0", 10, 2, 3);
        row("coins 1 2 4;purse 0 1 1;purse 0 2 1;come 0 0", 6, 0, 0);
        row("coins 1;come 0 0", 0, 0, 0);
        row("coins 2 4 8;law 3;lies 0 2;lies 1 1;purse 0 1 1;purse 0 2 1;come 0 0 0", 12, 0, 0, 0);
        // A three takes a one; then a seven takes four threes.
        row("coins 1 3 7;law 3;lies 0 1;lies 1 3;purse 0 1 1;purse 0 2 1;come 0 0 0", 13, 0, 2, 3);
    }

    private static void planFromNow() {
        sentence("FORETOLD from now, VISITS that are left: all others BY HABIT");
        // 1 throws a three for two twos, so 0 gets four threes for his five.
        String house = "coins 2 3 5;law 3;lies 0 2;lies 1 3;purse 0 2 1;purse 1 1 1;";
        row(house + "greedy 1;come 1 0", 12, 3);
        row(house + "cheap 1;come 1 0", 12, 3);
        row(house + "waiting 1 1;come 1 0", 12, 3);
        row(house + "waiting 1 2;come 1 0", 9, 3);
        row(house + "never 1;come 1 0", 9, 3);
        row(house + "greedy 1;come 0 1", 9, 3);
        row(house + "greedy 1;come 0", 9, 3);
        row(house + "greedy 1;come 0 1 0", 12, 0, 3);
        ThrownCoins x = told(house + "greedy 1;come 1 0 0");
        due("0 throws", x.plan(0, 1), 3);
        due("1 throws not", x.visit(NONE), WITHOUT);
        due("from now: first the threes for a five, then the twos for a three", x.plan(0, NONE), 10);
        due("from now", x.plan(0, 0), 3);
        due("from now", x.plan(0, 1), 2);
        due("0 throws", x.visit(2), WITHOUT + 4);
        due("from now", x.plan(0, NONE), 10);
        due("from now", x.plan(0, 0), 2);
        due("only one", x.plan(0, 1), NONE);
        due("go", x.go(1), 3);
        due("none", x.plan(0, 0), NONE);
        due("as it is", x.plan(0, NONE), 9);
    }

    private static void played(String told, int[] worths, int... choices) {
        ThrownCoins x = told(told);
        for (int person = 0; person < worths.length; person++) {
            due("game(" + person + ") of " + told, x.game(person), worths[person]);
        }
        for (int i = 0; i < choices.length; i++) {
            due("choice(" + i + ") of " + told, x.choice(i), choices[i]);
        }
        due("no more", x.choice(choices.length), NONE);
    }

    private static void gameOfVisits() {
        sentence("GAME (6 VISITS at most)");
        played(BOTH + "alone", new int[] {5, 3, 0, 0});
        played(BOTH + "come 0", new int[] {9, 3, 0, 0}, 3);
        played(BOTH + "come 1 0", new int[] {12, 4, 0, 0}, 2, 3);
        played(BOTH + "come 1 0 1", new int[] {9, 4, 0, 0}, 0, 3, 2);
        played(BOTH + "come 2 1 3 0 1", new int[] {9, 4, 0, 0}, 0, 0, 0, 3, 2);
        played(BOTH + "come 2 1 3 0 1 2", new int[] {9, 4, 0, 0}, 0, 0, 0, 3, 2, 0);
        played(CHAIN + "come 0 0 0 0 0", new int[] {10 + 8 + 7 + 6 + 4 + 7, 0, 0, 0}, 6, 5, 4, 4, 5);
        played(CHAIN + "come 0 0 0 0 0 0", new int[] {10 + 8 + 7 + 6 + 4 + 4 + 7, 0, 0, 0}, 6, 5, 4, 4, 2, 5);
        ThrownCoins x = told(BOTH + "come 2 2 1 3 0 1 2");
        for (int person = 0; person < 4; person++) {
            due("seven visits", x.game(person), NOT);
            due("seven visits", x.choice(person), NOT);
        }
        due("seven visits", x.choice(7), NOT);
        due("unknown comes first", x.game(4), UNKNOWN);
        due("unknown comes first", x.game(-1), UNKNOWN);
        due("outside comes first", x.choice(-1), OUTSIDE);
        due("go", x.go(1), 1);
        due("six are left", x.game(0), 9);
        due("six are left", x.choice(4), 2);
        due("six are left", x.choice(5), 0);
        due("no seventh", x.choice(6), NONE);
        sentence("choice: NONE: there are not so many; OUTSIDE: i below 0");
        due("far above", x.choice(MOST), NONE);
        due("far below", x.choice(LEAST), OUTSIDE);
        due("-1", x.choice(-1), OUTSIDE);
        due("nobody comes", new ThrownCoins().choice(0), NONE);
        due("nobody comes", new ThrownCoins().choice(-1), OUTSIDE);
        sentence("game: UNKNOWN");
        due("person -1", x.game(-1), UNKNOWN);
        due("person 3", x.game(3), 0);
        due("person 4", x.game(4), UNKNOWN);
    }

    private static void gameOfSeveral() {
        sentence("GAME: of several none, then the least KIND; all behind do likewise");
        played("coins 1 2;lies 0 1;purse 0 1 1;come 0", new int[] {2, 0, 0, 0}, 0);
        played("coins 1 2;lies 0 2;purse 0 1 1;come 0", new int[] {2, 0, 0, 0}, 0);
        played("coins 1 2;lies 0 3;purse 0 1 1;come 0", new int[] {3, 0, 0, 0}, 2);
        // 0 would gain nothing by his three; as he does not throw it, 1 gets three for two.
        played("coins 1 2 3;lies 0 3;purse 0 2 1;purse 1 1 1;come 0 1", new int[] {3, 3, 0, 0}, 0, 2);
        // 0 gains 2 by a two and by a six; behind the two, three of them lie there for the five of 1.
        played("coins 1 2 5 6;lies 0 4;lies 1 2;purse 0 1 1;purse 0 3 1;purse 1 2 1;come 0 1",
                new int[] {10, 6, 0, 0}, 2, 3);
        // Of his own two visits 0 leaves the first, if the second does as well.
        played("coins 1 2;lies 0 3;purse 0 1 1;come 0 0", new int[] {3, 0, 0, 0}, 0, 2);
        played("coins 1 2;lies 0 3;purse 0 1 1;purse 1 1 1;come 0 1 0", new int[] {3, 2, 0, 0}, 2, 0, 0);
    }

    private static void gameFromNow() {
        sentence("FORETOLD from now: each what is greatest for himself, whatever his HABIT");
        played(BOTH.replace("greedy", "never") + "come 1 0 1", new int[] {9, 4, 0, 0}, 0, 3, 2);
        played(BOTH.replace("greedy 0", "waiting 0 99") + "come 1 0 1", new int[] {9, 4, 0, 0}, 0, 3, 2);
        ThrownCoins x = told(BOTH + "come 1 0 1");
        due("1 waits", x.choice(0), 0);
        due("but he throws", x.visit(1), WITHOUT + 1);
        due("from now", x.game(0), 12);
        due("from now", x.game(1), 4);
        due("from now", x.choice(0), 3);
        due("from now", x.choice(1), 0);
        due("two are left", x.choice(2), NONE);
        due("go", x.go(24), 3);
        due("as it is", x.game(0), 12);
        due("none is left", x.choice(0), NONE);
    }

    private static void leagueOfVisits() {
        sentence("LEAGUE: as PLAN, with VISITS of both (5 at most)");
        String house = "coins 2 3 6;law 3;lies 1 2;lies 0 3;purse 0 2 1;never 0;never 1;";
        String[] five = {"come 0 0 0 0 0", "come 1 1 1 0 0", "come 1 0 1 0 1", "come 2 1 2 0 2 0 3 1 1;come 2"};
        for (String comes : five) {
            due("five by " + comes, told(house + comes).league(0, 1), 9);
            due("five by " + comes, told(house + comes).league(1, 0), 9);
            ThrownCoins x = told(house + comes, "come 1");
            due("six by " + comes, x.league(0, 1), NOT);
            due("six by " + comes, x.league(1, 0), NOT);
        }
        due("four", told(house + "come 0 0 1 1").league(0, 1), 9);
        due("none", told(house + "come 2 3 2 3").league(0, 1), 6);
        due("nobody comes", told(house + "alone").league(0, 1), 6);
        due("one", told(house + "come 0").league(1, 0), 6);
        ThrownCoins x = told(house + "come 0 0 0 1 1 1");
        due("three and three", x.league(0, 1), NOT);
        due("three of 0", x.league(0, 2), 9);
        due("three of 1", x.league(1, 3), 0);
        due("none of theirs", x.league(2, 3), 0);
        due("go", x.go(1), 1);
        due("two and three", x.league(0, 1), 9);
        sentence("league: UNKNOWN; OUTSIDE: one and itself; NOT: more than 5");
        ThrownCoins y = told(house + "come 0 0 0 0 0 0");
        for (int one = 0; one < 4; one++) {
            due("one and itself", y.league(one, one), OUTSIDE);
            due("-1", y.league(-1, one), UNKNOWN);
            due("-1", y.league(one, -1), UNKNOWN);
            due("4", y.league(4, one), UNKNOWN);
            due("4", y.league(one, 4), UNKNOWN);
        }
        due("unknown comes first", y.league(4, 4), UNKNOWN);
        due("unknown comes first", y.league(-1, -1), UNKNOWN);
        due("outside comes ahead of not", y.league(0, 0), OUTSIDE);
    }

    private static void leagueOfBoth() {
        sentence("LEAGUE of two: for WORTH of both PURSES together, all others BY HABIT");
        // Alone, 1 gains 1 by his two; together 0's one takes all three ones and gains 2.
        ThrownCoins x = told("coins 1 2;law 1;lies 0 3;purse 0 0 1;purse 1 1 1;never 0;never 1;come 1 0");
        due("both", x.league(0, 1), 5);
        due("with one who never comes", x.league(0, 2), 3);
        due("with one who never comes", x.league(1, 3), 3);
        tell(x, "greedy 1");
        due("1 by habit", x.league(0, 2), 1);
        tell(x, "waiting 1 2");
        due("1 waits for 2", x.league(0, 2), 3);
        tell(x, "purse 2 1 1;greedy 2;alone;come 2 1 0");
        due("2 has taken all by habit", x.league(0, 1), 3);
        due("two of three", x.league(0, 2), 5);
    }

    private static void meanOfVisits() {
        sentence("MEAN of one of PEOPLE (10 VISITS at most)");
        ThrownCoins x = told(HALF + "come 1 1 1 1 1 1 1 1 0");
        due("nine visits: 3 + 0.7 to the eighth", x.mean(0, 3, 0), 305764801);
        due("nine visits", x.mean(0, 3, 1), 100000000);
        tell(x, "alone;come 1 1 1 1 1 1 1 1 1;come 0");
        due("ten visits: 3 + 0.7 to the ninth", x.mean(0, 3, 0), 3040353607L);
        due("ten visits", x.mean(0, 3, 1), 1000000000L);
        due("ten visits: 3 + 0.9 to the ninth", x.mean(0, 1, 0), 3387420489L);
        due("ten visits: 3 + 0.5 to the ninth", x.mean(0, 5, 0), 1537);
        due("ten visits", x.mean(0, 5, 1), 512);
        due("ten visits: 3 + 0.8 to the ninth", x.mean(0, 2, 0), 6121519);
        due("ten visits", x.mean(0, 2, 1), 1953125);
        ThrownCoins others = told(HALF + "purse 2 1 1;cheap 2;come 1 2 1 2 1 2 1 2 1;come 2");
        for (int p = 0; p <= 10; p++) {
            due("ten of others", others.mean(0, p, 0), 3);
            due("ten of others", others.mean(0, p, 1), 1);
        }
        due("ten of his own", told(HALF + "come 0 0 0 0 0 0 0 0 0;come 0").mean(0, 3, 0), 4);
        tell(x, "come 2");
        due("eleven visits", x.mean(0, 3, 0), NOT);
        due("eleven visits", x.mean(3, 10, 1), NOT);
        due("outside comes first", x.mean(0, 11, 0), OUTSIDE);
        due("outside comes first", x.mean(0, 3, 2), OUTSIDE);
        due("unknown comes first", x.mean(4, 3, 0), UNKNOWN);
        due("go", x.go(1), 1);
        due("ten are left", x.mean(0, 3, 0), 3);
        due("go", x.go(24), 11);
        due("none is left", x.mean(0, 3, 0), 3);
        due("none is left", x.mean(1, 3, 0), 4);
        ThrownCoins dear = told("coins 998 999;lies 0 20;purse 0 1 20;purse 1 1 1;greedy 0;greedy 1;come 1 1 1 1 1 1 1 1 1;come 0");
        due("dear: 19980 + 18961 by 0.7 to the ninth", dear.mean(0, 3, 0), 20745144742327L);
        due("dear", dear.mean(0, 3, 1), 1000000000L);
    }

    private static void meanOfChances() {
        sentence("MEAN: each VISIT of others is there by p tenths (0 .. 10), by itself, his own for certain");
        ThrownCoins x = told(HALF + "come 1 0");
        long[][] due = {{4, 1}, {39, 10}, {19, 5}, {37, 10}, {18, 5}, {7, 2}, {17, 5}, {33, 10}, {16, 5}, {31, 10}, {3, 1}};
        for (int p = 0; p <= 10; p++) {
            due("mean(0, " + p + ", 0)", x.mean(0, p, 0), due[p][0]);
            due("mean(0, " + p + ", 1)", x.mean(0, p, 1), due[p][1]);
            due("his own is certain", x.mean(1, p, 0), 4);
            due("his own is certain", x.mean(1, p, 1), 1);
        }
        due("p -1", x.mean(0, -1, 0), OUTSIDE);
        due("p 11", x.mean(0, 11, 0), OUTSIDE);
        due("p far off", x.mean(0, MOST, 0), OUTSIDE);
        due("p far off", x.mean(0, LEAST, 0), OUTSIDE);
        due("part -1", x.mean(0, 5, -1), OUTSIDE);
        due("part 2", x.mean(0, 5, 2), OUTSIDE);
        due("person -1", x.mean(-1, -1, -1), UNKNOWN);
        due("person 4", x.mean(4, 11, 2), UNKNOWN);
        due("person 3", x.mean(3, 10, 1), 1);
        // What others throw lies there for him: he gets 5 fives if 1 came, else 4, for his twelve.
        ThrownCoins y = told("coins 1 5 12;law 3;lies 0 9;lies 1 4;purse 0 2 1;purse 1 1 1;greedy 0;greedy 1;come 1 0");
        due("20 or 25", y.mean(0, 0, 0), 20);
        due("20 or 25", y.mean(0, 1, 0), 41);
        due("20 or 25", y.mean(0, 1, 1), 2);
        due("20 or 25", y.mean(0, 10, 0), 25);
        tell(y, "waiting 1 5");
        due("by habit: he waits", y.mean(0, 10, 0), 20);
        tell(y, "never 0");
        due("by habit: never", y.mean(0, 5, 0), 12);
    }

    private static void meanInLowestTerms() {
        sentence("Parts are told in lowest terms: above (part 0), below (1)");
        ThrownCoins x = told(HALF + "come 1 1 0");
        long[][] due = {{4, 1}, {381, 100}, {91, 25}, {349, 100}, {84, 25}, {13, 4}, {79, 25}, {309, 100}, {76, 25}, {301, 100}, {3, 1}};
        for (int p = 0; p <= 10; p++) {
            due("mean(0, " + p + ", 0)", x.mean(0, p, 0), due[p][0]);
            due("mean(0, " + p + ", 1)", x.mean(0, p, 1), due[p][1]);
            due("nothing is 0 of 1", x.mean(2, p, 0), 0);
            due("nothing is 0 of 1", x.mean(2, p, 1), 1);
        }
        // 2 by a half and 12 by a half: 7. 2 by a tenth and 12 by nine: 11.
        ThrownCoins y = told("coins 1 2;lies 0 12;purse 0 1 1;purse 1 1 1;greedy 0;greedy 1;come 1 0");
        due("a whole number", y.mean(0, 5, 0), 7);
        due("a whole number", y.mean(0, 5, 1), 1);
        due("a whole number", y.mean(0, 1, 0), 11);
        due("a whole number", y.mean(0, 1, 1), 1);
    }

    private static void dryRounds() {
        sentence("DRY: VISITS (all of them, from the next one on) come round and round, till a whole round without a THROW");
        due("nobody comes", new ThrownCoins().dry(), NONE);
        due("nobody comes any more", told("come 0 1;alone").dry(), NONE);
        String comes = "come";
        for (int visits = 1; visits <= 9; visits++) {
            comes += " 3";
            due("never, " + visits, told(comes).dry(), visits);
            ThrownCoins x = told(HALF + comes.replaceFirst("3", "0"));
            due("the first throws, of " + visits, x.dry(), 1 + visits);
            due("go", x.go(24), visits);
            due("he has no coin for it", x.dry(), visits);
            ThrownCoins last = told(HALF + comes.substring(0, comes.length() - 1) + "0");
            due("the last throws, of " + visits, last.dry(), 2 * visits);
        }
        due("24 never", told("come 3 3 3 3 3 3 3 3;come 3 3 3 3 3 3 3 3;come 3 3 3 3 3 3 3 3").dry(), 24);
        due("the last of 24", told(HALF + "come 3 3 3 3 3 3 3 3;come 3 3 3 3 3 3 3 3;come 3 3 3 3 3 3 3 0").dry(), 48);
        ThrownCoins x = told(HALF + "come 0 3 3 3");
        due("none", x.visit(NONE), WITHOUT);
        due("the fourth from the second on", x.dry(), 8);
        due("go", x.go(2), 3);
        due("the second from the fourth on", x.dry(), 6);
        due("go", x.go(1), 4);
        due("all have gone: from the first one on", x.dry(), 5);
        // The ones for a three, at the second visit; then six threes for a five, at the fourth.
        ThrownCoins y = told("coins 1 3 5;law 3;lies 0 4;lies 1 5;purse 0 1 1;purse 1 2 1;cheap 0;waiting 1 11;come 2 0 2 1");
        due("two throws in one round", y.dry(), 8);
        tell(y, "alone;come 2 1 2 0");
        due("the second throw in the second round", y.dry(), 10);
    }

    private static void dryAtMost() {
        sentence("DRY: none: not in 200");
        // By law 3 each throw of 0 makes another worth it, a round later; once 1, a visit ahead of him, must help.
        ThrownCoins x = told("coins 5 6 7 8 9 10;law 3;lies 0 20;lies 1 2;lies 2 2;lies 3 2;lies 4 2;purse 0 5 2;purse 1 2 1",
                "greedy 0;waiting 1 50;come 2 2 2 2 2 2 2 2;come 2 2 2 2 2 2 2 2;come 2 2 2 2 2 2 1 0");
        due("eight throws, one of them within a round", x.dry(), 192);
        due("go", x.go(23), 23);
        due("from the last one on", x.dry(), 169);
        tell(x, "purse 1 2 0");
        due("without help five throws", x.dry(), 6 * 24);
    }

    private static void baitOfThree() {
        sentence("BAIT: COINS of the house, 3 at most, of any KINDS, put in: the least WORTH of them together; none");
        ThrownCoins x = told("coins 1 3;purse 0 1 1;greedy 0");
        int[] due = {NONE, 3, 2, 1, 0, 0};
        for (int ones = 0; ones < due.length; ones++) {
            tell(x, "lies 0 " + ones);
            due("for a three over " + ones, x.bait(0), due[ones]);
        }
        ThrownCoins y = told("coins 1 2 4 9;purse 0 3 1;greedy 0");
        int[] dear = {10, 9, 8, 7, 6, 5, 4, 3, 2, 1, 0};
        for (int ones = 0; ones < dear.length; ones++) {
            tell(y, "lies 0 " + ones);
            due("for a nine over " + ones, y.bait(0), dear[ones]);
        }
        due("three of the same", told("coins 1 4 9;purse 0 2 1;greedy 0").bait(0), 12);
        due("three of them are not above it", told("coins 1 3 9;purse 0 2 1;greedy 0").bait(0), NONE);
        due("three of them are just above it", told("coins 1 3 8;purse 0 2 1;greedy 0").bait(0), 9);
        due("two of them for less than three", told("coins 2 5 9;purse 0 2 1;greedy 0").bait(0), 10);
        due("his like, by law 1", told("coins 5 7;law 1;purse 0 0 1;cheap 0").bait(0), 10);
        due("his like, by law 0", told("coins 5 7;law 0;purse 0 0 1;cheap 0").bait(0), NONE);
        due("the greatest kind", told("coins 5 7;law 1;purse 0 1 1;cheap 0").bait(0), 10);
        due("by law 3 of one kind: 4 + 4 + 4", told("coins 1 2 4 9;law 3;purse 0 3 1;greedy 0").bait(0), 12);
        due("by law 3 over what lies there", told("coins 1 2 4 9;law 3;lies 2 2;purse 0 3 1;greedy 0").bait(0), 4);
        due("by law 2 never", told("coins 1 2 4 9;law 2;lies 2 9;purse 0 3 1;greedy 0").bait(0), NONE);
        due("the six kinds", told("coins 1 2 3 4 5 12;purse 2 5 1;cheap 2").bait(2), 13);
    }

    private static void baitByHabit() {
        sentence("BAIT: so that he, with his PURSE as it is now, would throw BY HABIT; 0: he would throw as it is");
        String house = "coins 1 2 4 9;purse 0 3 1;";
        int[] due = {10, 10, 12, 12, NONE};
        for (int bound = 0; bound < due.length; bound++) {
            due("waiting for " + bound, told(house + "waiting 0 " + bound).bait(0), due[bound]);
        }
        due("waiting for 99", told(house + "waiting 0 99").bait(0), NONE);
        due("who never throws", told(house + "never 0").bait(0), NONE);
        due("who never throws", told(house + "never 0;lies 0 20").bait(0), NONE);
        due("who has nothing", told(house + "greedy 1;lies 0 20").bait(1), NONE);
        due("cheap", told(house + "cheap 0").bait(0), 10);
        due("by the dearest or any", told(house + "purse 0 1 1;greedy 0").bait(0), 3);
        ThrownCoins x = told(house + "greedy 0;come 0 1 0", "lies 0 9;lies 1 1");
        due("as it is", x.bait(0), 0);
        due("he throws", x.visit(3), WITHOUT + 2);
        due("ones for a two", x.bait(0), 3);
        due("person -1", x.bait(-1), UNKNOWN);
        due("person 3", x.bait(3), NONE);
        due("person 4", x.bait(4), UNKNOWN);
    }
}
