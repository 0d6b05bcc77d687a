/** Each promise of the document by hand: ordinary calls, the edges that it names, and wrong calls. */
public final class PromisesTest extends Asking {
    /** Person 0 greedy, 1 waiting for 20, 2 cheap, 3 never; they come 0 1 2 0 1 2. */
    private static final String MARKET = "coins 1 5 12 60;lies 0 9;lies 1 3;purse 0 1 2;purse 1 2 1;purse 1 3 1;"
            + "purse 2 0 4;greedy 0;waiting 1 20;cheap 2";
    private static final String MARKET_COMES = "purse 2 2 1;come 0 1 2 0 1 2";

    public static void main(String[] args) {
        newObject();
        write();
        erase();
        faultsOfTokens();
        faultsOfLines();
        faultsOfNumbers();
        sunday();
        whatTextsTell();
        coinAndPurse();
        person();
        as();
        come();
        gain();
        visit();
        go();
        plan();
        game();
        league();
        mean();
        dry();
        bait();
        noteAndForget();
        lay();
        keepAndBack();
        count();
        nothingChanges();
        end("all promises are kept");
    }

    private static void newObject() {
        sentence("promise 1");
        ThrownCoins x = new ThrownCoins();
        due("kinds", x.count(0), 1);
        due("worth of kind 0", x.coin(0, 0), 1);
        due("lies", x.coin(0, 1), 0);
        due("no kind 1", x.coin(1, 0), UNKNOWN);
        for (int what = 1; what < 8; what++) {
            due("count(" + what + ")", x.count(what), 0);
        }
        for (int person = 0; person < 4; person++) {
            due("purse", x.purse(person, 0), 0);
            due("wealth", x.person(person, 0), 0);
            due("habit", x.person(person, 1), 0);
            due("bound", x.person(person, 2), NONE);
            due("visits left", x.person(person, 3), 0);
            due("as folk", x.as(person, 0), NONE);
            due("bait", x.bait(person), NONE);
            due("plan", x.plan(person, NONE), 0);
        }
        due("come", x.come(0), NONE);
        due("fault", x.fault(), 0);
        due("sunday", x.sunday(), NOT);
        due("back", x.back(0), NOT);
        due("dry", x.dry(), NONE);
        due("lay", x.lay(0), 4);
    }

    private static void write() {
        sentence("promise 2");
        ThrownCoins x = new ThrownCoins();
        due("no bytes", x.write(0, 0), OUTSIDE);
        due("nine bytes", x.write(0, 9), OUTSIDE);
        due("fewer than none", x.write(0, -1), OUTSIDE);
        due("far too few", x.write(0, LEAST), OUTSIDE);
        due("far too many", x.write(0, MOST), OUTSIDE);
        due("nothing came of it", x.count(6), 0);
        due("'alon' and bytes too many", x.write(0x7766_6e6f_6c61L | -1L << 48, 4), 4);
        due("'e'", x.write('e', 1), 5);
        due("alone is right", x.fault(), NONE);
        due("';law 001' in one, the highest byte last", x.write(0x3130_3020_7761_6c3bL, 8), 13);
        due("the highest byte counts", x.fault(), NONE);
        due("'a' above 127 is no letter", x.write(0xe1, 1), 14);
        due("it is a token of its own", x.fault(), 13);
        due("erased", x.erase(), 14);
        for (int i = 1; i <= 24; i++) {
            due("blanks", x.write(0x2020202020202020L, 8), 8 * i);
        }
        due("three more", x.write(0x202020, 3), 195);
        due("six more than there is room", x.write(0x202020202020L, 6), FULL);
        due("nothing came of it", x.count(6), 195);
        due("just so many", x.write(0x656e6f6c61L, 5), 200);
        due("all bytes are read", x.fault(), NONE);
        due("one more", x.write(0, 1), FULL);
        due("outside comes first", x.write(0, 9), OUTSIDE);
        due("done", x.sunday(), 1);
        due("room again", x.write(0, 1), 1);
    }

    private static void erase() {
        sentence("promise 3");
        ThrownCoins x = new ThrownCoins();
        due("nothing there", x.erase(), 0);
        writeText(x, "law 2");
        due("erase", x.erase(), 5);
        due("erase again", x.erase(), 0);
        due("nothing is left of it", x.fault(), 0);
        due("no law came of it", x.count(2), 0);
        writeText(x, "law 1");
        due("only the new text stands", x.sunday(), 1);
        due("law", x.count(2), 1);
    }

    private static void faultsOfTokens() {
        sentence("promise 4");
        faultAt(0, "");
        faultAt(3, "   ");
        faultAt(0, ";");
        faultAt(0, "1");
        faultAt(0, "beggar");
        faultAt(2, "  coin 1");
        faultAt(0, "coinss 1");
        faultAt(0, "Alone");
        faultAt(0, "a");
        faultAt(0, "alon");
        faultAt(0, "alonealone");
        faultAt(0, "alonez");
        faultAt(0, "blone");
        faultAt(0, "alonf");
        faultAt(6, "alone alone");
        faultAt(5, "alone1");
        faultAt(5, "alone\tlaw 1");
        faultAt(5, "alone.");
        faultAt(5, "alone\u00ff");
        faultAt(0, "\0alone");
        faultAt(6, "alone;");
        faultAt(9, "alone;   ");
        faultAt(6, "alone;;alone");
        faultAt(NONE, "  alone  ;  alone  ");
        faultAt(NONE, "law1;law 2;law003;law   0");
        faultAt(6, "law01 2");
        faultAt(4, "law -1");
        faultAt(5, "law 1come 1");
        faultAt(4, "law `");
        faultAt(4, "law {");
        faultAt(4, "law /");
        faultAt(4, "law :");
        faultAt(NONE, "alone;alone;alone;alone;alone;alone;alone;alone;alone;alone ");
        faultAt(59, "alone;alone;alone;alone;alone;alone;alone;alone;alone;alone;");
        faultAt(59, "alone;alone;alone;alone;alone;alone;alone;alone;alone;alone;alone");
    }

    private static void faultsOfLines() {
        sentence("promise 4");
        faultAt(5, "coins");
        faultAt(5, "coins;alone");
        faultAt(6, "coins x");
        faultAt(NONE, "coins 1 2 3 4 5 6");
        faultAt(18, "coins 1 2 3 4 5 6 7");
        faultAt(18, "coins 1 2 3 4 5 6 x");
        faultAt(4, "lies");
        faultAt(6, "lies 0");
        faultAt(6, "lies 0;alone");
        faultAt(9, "lies 0 1 1");
        faultAt(5, "purse");
        faultAt(7, "purse 1");
        faultAt(9, "purse 1 0");
        faultAt(12, "purse 1 0 5 5");
        faultAt(5, "never");
        faultAt(8, "never 0 1");
        faultAt(6, "greedy");
        faultAt(9, "greedy 0 1");
        faultAt(7, "waiting");
        faultAt(9, "waiting 0");
        faultAt(13, "waiting 0 99 1");
        faultAt(5, "cheap");
        faultAt(8, "cheap 0 1");
        faultAt(4, "come");
        faultAt(NONE, "come 0 1 2 3 0 1 2 3 0");
        faultAt(23, "come 0 1 2 3 0 1 2 3 0 1");
        faultAt(3, "law");
        faultAt(6, "law 0 0");
        String nine = "come 0 1 2 3 0 1 2 3 0;";
        faultAt(NONE, nine + nine + "come 0 1 2 3 0 1");
        faultAt(2 * nine.length() + 17, nine + nine + "come 0 1 2 3 0 1 2");
        faultAt(2 * nine.length() + 22, nine + nine + "come 0 1 2 3 0 1;come 0");
        faultAt(2 * nine.length() + 21, nine + nine + "come 0 1 2 3 0 1;come");
        faultAt(NONE, nine + nine + "come 0 1 2 3 0 1;alone;come 3");
        faultBehind(told(nine + nine + "come 0 1 2 3"), 9, "come 0 1 2");
        faultBehind(told(nine + nine + "come 0 1 2 3"), NONE, "come 0 1");
        faultBehind(told(nine + nine + "come 0 1 2 3"), NONE, "alone;come 0 1 2");
    }

    private static void faultsOfNumbers() {
        sentence("promise 4");
        faultAt(6, "coins 0");
        faultAt(NONE, "coins 999");
        faultAt(6, "coins 1000");
        faultAt(6, "coins 0001");
        faultAt(NONE, "coins 001 002");
        faultAt(8, "coins 1 1");
        faultAt(8, "coins 5 4");
        faultAt(10, "coins 998 01");
        faultAt(14, "coins 998 999 999");
        faultAt(6, "coins 99999999999999999999");
        faultAt(NONE, "lies 0 20");
        faultAt(7, "lies 0 21");
        faultAt(5, "lies 1 1");
        faultAt(NONE, "coins 1 2;lies 1 1");
        faultAt(5, "lies 1 1;coins 1 2");
        faultAt(15, "coins 1 2;lies 2 1");
        faultAt(18, "coins 1 2;purse 3 2 1");
        faultBehind(told("coins 1 2 3"), NONE, "lies 2 0");
        faultBehind(told("coins 1 2 3"), 13, "coins 1;lies 1 0");
        faultAt(NONE, "purse 3 0 20");
        faultAt(6, "purse 4 0 20");
        faultAt(8, "purse 3 1 20");
        faultAt(10, "purse 3 0 21");
        faultAt(6, "never 4");
        faultAt(7, "greedy 4");
        faultAt(8, "waiting 4 1");
        faultAt(NONE, "waiting 3 99;never 3;greedy 3;cheap 3;purse 3 0 0");
        faultAt(10, "waiting 0 100");
        faultAt(6, "cheap 4");
        faultAt(7, "come 3 4");
        faultAt(4, "law 4");
    }

    private static void sunday() {
        sentence("promise 5");
        ThrownCoins x = told(MARKET);
        due("the text is empty", x.count(6), 0);
        due("it is refused then", x.sunday(), NOT);
        tell(x, MARKET_COMES);
        due("lies as told before", x.coin(1, 1), 3);
        due("habit as told before", x.person(1, 2), 20);
        due("go", x.go(3), 3);
        due("keep", x.keep(0), 3);
        due("keep", x.keep(1), 3);
        due("note", x.note(0, 0), 1);
        writeText(x, "law 1;law 4");
        due("a fault", x.sunday(), NOT);
        due("nothing was done", x.count(2), 0);
        due("nothing has come back", x.count(4), 3);
        due("the note stands", x.count(5), 1);
        due("erase", x.erase(), 11);
        tell(x, "come 3");
        due("no visit has gone", x.count(4), 0);
        due("one visit more", x.count(3), 7);
        due("lies as told again", x.count(1), 24);
        due("had as told again", x.person(0, 0), 10);
        due("had as told again", x.person(1, 0), 72);
        due("notes are none", x.count(5), 0);
        due("nothing is kept", x.back(0), NOT);
        due("nothing is kept", x.back(1), NOT);
        tell(x, "alone;lies 0 2;lies 0 4;law 3");
        due("the last word counts", x.coin(0, 1), 4);
        due("the other lies", x.coin(1, 1), 3);
        due("no visits", x.count(3), 0);
    }

    private static void whatTextsTell() {
        sentence("promise 5");
        ThrownCoins x = told(MARKET, MARKET_COMES, "law 2", "coins 3 7");
        due("kinds", x.count(0), 2);
        due("nothing lies there", x.count(1), 0);
        due("nobody has anything", x.count(7), 0);
        due("law stays", x.count(2), 2);
        due("visits stay", x.count(3), 6);
        due("habits stay", x.person(1, 1), 2);
        tell(x, "coins 3 7 8;lies 2 1;coins 3 7 8;purse 3 1 2;purse 3 0 1");
        due("nothing lies there behind coins", x.coin(2, 1), 0);
        due("what comes behind stands", x.purse(3, 1), 2);
        tell(x, "never 1;waiting 0 0;waiting 0 99;cheap 3;greedy 2");
        due("never", x.person(1, 1), 0);
        due("waiting", x.person(0, 1), 2);
        due("bound", x.person(0, 2), 99);
        due("cheap", x.person(3, 1), 3);
        due("greedy", x.person(2, 1), 1);
        tell(x, "greedy 0");
        due("no bound any more", x.person(0, 2), NONE);
        tell(x, "alone;come 3 3;come 1");
        due("come 0", x.come(0), 3);
        due("come 2", x.come(2), 1);
    }

    private static void coinAndPurse() {
        sentence("promise 6");
        ThrownCoins x = told(MARKET);
        int[] worths = {1, 5, 12, 60};
        int[] lies = {9, 3, 0, 0};
        for (int kind = 0; kind < 4; kind++) {
            due("worth", x.coin(kind, 0), worths[kind]);
            due("lies", x.coin(kind, 1), lies[kind]);
        }
        due("what -1", x.coin(0, -1), OUTSIDE);
        due("what 2", x.coin(0, 2), OUTSIDE);
        due("kind -1", x.coin(-1, 0), UNKNOWN);
        due("kind 4", x.coin(4, 2), UNKNOWN);
        due("kind far below", x.coin(LEAST, LEAST), UNKNOWN);
        due("kind far above", x.coin(MOST, 0), UNKNOWN);
        sentence("promise 7");
        due("purse", x.purse(0, 1), 2);
        due("purse", x.purse(1, 3), 1);
        due("purse", x.purse(2, 0), 4);
        due("purse", x.purse(3, 0), 0);
        due("person -1", x.purse(-1, 0), UNKNOWN);
        due("person 4", x.purse(4, 0), UNKNOWN);
        due("kind -1", x.purse(0, -1), UNKNOWN);
        due("kind 4", x.purse(3, 4), UNKNOWN);
        due("far off", x.purse(MOST, LEAST), UNKNOWN);
    }

    private static void person() {
        sentence("promise 8");
        ThrownCoins x = told(MARKET, MARKET_COMES);
        int[][] due = {{10, 1, NONE, 2}, {72, 2, 20, 2}, {16, 3, NONE, 2}, {0, 0, NONE, 0}};
        for (int person = 0; person < 4; person++) {
            for (int what = 0; what < 4; what++) {
                due("person(" + person + ", " + what + ")", x.person(person, what), due[person][what]);
            }
        }
        due("what -1", x.person(0, -1), OUTSIDE);
        due("what 4", x.person(0, 4), OUTSIDE);
        due("person -1", x.person(-1, 0), UNKNOWN);
        due("person 4", x.person(4, 4), UNKNOWN);
        due("go", x.go(1), 1);
        due("one visit less", x.person(0, 3), 1);
        due("the others' are left", x.person(1, 3), 2);
        due("wealth now: 10 and 4", x.person(0, 0), 14);
    }

    private static void as() {
        sentence("promise 9");
        // Kind 1 gains 9 less 5, kind 2 gains 24 less 12, kind 3 loses: 24 less 60.
        String all = ";purse 0 1 1;purse 0 2 1;purse 0 3 1";
        String worths = "coins 1 5 12 60;lies 0 9;lies 1 3" + all + ";";
        int[][] due = {
            {NONE, NONE, NOT, NOT, NOT, NOT},
            {2, NOT, 2, 2, NOT, NOT},
            {2, NOT, 2, 2, 2, NOT},
            {1, NOT, 1, NOT, NOT, 1},
        };
        String[] habits = {"never 0", "greedy 0", "waiting 0 12", "cheap 0"};
        for (int habit = 0; habit < 4; habit++) {
            ThrownCoins x = told(worths + habits[habit]);
            for (int taken = 0; taken < 6; taken++) {
                due(habits[habit] + " as " + taken, x.as(0, taken), due[habit][taken]);
            }
            due("person -1", x.as(-1, 0), UNKNOWN);
            due("person 4", x.as(4, 9), UNKNOWN);
            due("habit -1", x.as(0, -1), OUTSIDE);
            due("habit 6", x.as(0, 6), OUTSIDE);
        }
        due("a bound above the gain", told(worths + "waiting 0 13").as(0, 4), NONE);
        due("bound 0", told(worths + "waiting 0 0").as(0, 4), 2);
        // Gains of 0: 5 for 5.
        String even = "coins 1 5;lies 0 5;purse 0 1 1;";
        due("bound 0, gain 0", told(even + "waiting 0 0").as(0, 4), NONE);
        due("greedy, gain 0", told(even + "greedy 0").as(0, 3), NONE);
        due("cheap, gain 0", told(even + "cheap 0").as(0, 5), NONE);
        due("greedy, gain 1", told(even + "greedy 0;lies 0 6").as(0, 3), 1);
        due("cheap, gain 1", told(even + "cheap 0;lies 0 6").as(0, 5), 1);
        due("waiting 1, gain 1", told(even + "waiting 0 1;lies 0 6").as(0, 4), 1);
        due("waiting 0, gain 1", told(even + "waiting 0 0;lies 0 6").as(0, 4), 1);
        // Kinds 1 and 2 gain 2 and 3: 4 less 2, and 4 + 2 less 3.
        due("greater by 1", told("coins 1 2 3;lies 0 4;lies 1 1;purse 0 1 1;purse 0 2 1;greedy 0").as(0, 3), 2);
        // Kinds 1 and 2 gain 2 each: 4 less 2, and 4 + 2 less 4.
        String alike = "coins 1 2 4;lies 0 4;lies 1 1;purse 0 2 1;";
        due("only those that he has", told(alike + "greedy 0").as(0, 0), 2);
        due("of several the least", told(alike + "greedy 0;purse 0 1 1").as(0, 0), 1);
    }

    private static void come() {
        sentence("promise 10");
        ThrownCoins x = told("come 2 0 3");
        due("come(0)", x.come(0), 2);
        due("come(1)", x.come(1), 0);
        due("come(2)", x.come(2), 3);
        due("come(3)", x.come(3), NONE);
        due("come(24)", x.come(24), NONE);
        due("far above", x.come(MOST), NONE);
        due("come(-1)", x.come(-1), OUTSIDE);
        due("far below", x.come(LEAST), OUTSIDE);
        due("go", x.go(2), 2);
        due("from the first of all", x.come(0), 2);
        tell(x, "come 1");
        due("one more", x.come(3), 1);
        due("and no more", x.come(4), NONE);
    }

    private static void gain() {
        sentence("promise 11");
        String house = "coins 1 5 12 60;lies 0 9;lies 1 3;lies 2 1;purse 3 0 1;purse 3 1 1;purse 3 2 1;purse 3 3 1;law ";
        int[][] due = {
            {-1, 9 - 5, 24 - 12, 36 - 60},
            {9 - 1, 24 - 5, 36 - 12, 36 - 60},
            {-1, 1 - 5, 5 - 12, 12 - 60},
            {-1, 9 - 5, 15 - 12, 12 - 60},
        };
        for (int law = 0; law < 4; law++) {
            ThrownCoins x = told(house + law);
            for (int kind = 0; kind < 4; kind++) {
                due("gain of kind " + kind + " by law " + law, x.gain(3, kind), 100000 + due[law][kind]);
            }
            due("has none", x.gain(2, 1), NOT);
            due("person -1", x.gain(-1, 0), UNKNOWN);
            due("person 4", x.gain(4, 0), UNKNOWN);
            due("kind -1", x.gain(3, -1), UNKNOWN);
            due("kind 4", x.gain(2, 4), UNKNOWN);
            due("nothing changed", x.count(7), 36 + 78);
        }
        due("over an empty kind", told("coins 1 2 4;lies 0 5;purse 0 2 1;law 2").gain(0, 2), 99997);
        due("over an empty kind", told("coins 1 2 4;lies 0 5;purse 0 2 1;law 3").gain(0, 2), 100001);
        due("the dearest", told("coins 999;purse 0 0 1").gain(0, 0), 99001);
    }

    private static void visit() {
        sentence("promise 12");
        String house = "coins 1 5 12;lies 0 9;lies 1 3;purse 3 1 2;purse 3 2 2;come 3 3;law ";
        int[][] lies = {{0, 4, 0}, {0, 1, 0}, {8, 4, 0}, {0, 4, 0}};
        int[] gains = {4, 19, -4, 4};
        for (int law = 0; law < 4; law++) {
            ThrownCoins x = told(house + law);
            due("visit by law " + law, x.visit(1), 100000 + gains[law]);
            for (int kind = 0; kind < 3; kind++) {
                due("lies by law " + law, x.coin(kind, 1), lies[law][kind]);
            }
            due("wealth by law " + law, x.person(3, 0), 34 + gains[law]);
            due("all there is", x.count(7), 24 + 34);
            due("gone", x.count(4), 1);
            due("without", x.visit(NONE), 100000);
            due("gone", x.count(4), 2);
            due("none left", x.visit(NONE), NOT);
            due("none left", x.visit(1), NOT);
            due("no such kind all the same", x.visit(3), UNKNOWN);
        }
        ThrownCoins x = told(house + "0");
        due("taken into the purse", x.visit(2) - 100000, 24 - 12);
        due("ones", x.purse(3, 0), 9);
        due("fives", x.purse(3, 1), 5);
        due("twelves", x.purse(3, 2), 1);
        due("kind -2", x.visit(-2), UNKNOWN);
        due("kind 3", x.visit(3), UNKNOWN);
        due("far above", x.visit(MOST), UNKNOWN);
        tell(x, "alone;come 0 3");
        due("he has no such coin", x.visit(0), NOT);
        due("he has no such coin", x.visit(1), NOT);
        due("nothing has gone", x.count(4), 0);
        due("one may throw nothing", x.visit(NONE), 100000);
        tell(x, "alone;come 3 3;purse 3 0 1");
        due("the least kind takes nothing", x.visit(0), 99999);
        due("it lies there", x.coin(0, 1), 10);
        tell(x, "law 1");
        due("but by law 1 its likes", x.visit(0), 100008);
        due("and lies there alone", x.coin(0, 1), 1);
    }

    private static void go() {
        sentence("promise 13");
        ThrownCoins x = told(MARKET, MARKET_COMES);
        due("go(0)", x.go(0), OUTSIDE);
        due("go(-1)", x.go(-1), OUTSIDE);
        due("go(25)", x.go(25), OUTSIDE);
        due("far off", x.go(MOST), OUTSIDE);
        due("far off", x.go(LEAST), OUTSIDE);
        due("nothing has gone", x.count(4), 0);
        // 0 throws a five: nine ones. 1 waits: 4 fives gain 8 by a twelve. 2 throws his twelve: 20 less 12.
        due("one", x.go(1), 1);
        due("nine ones", x.purse(0, 0), 9);
        due("one more", x.go(1), 2);
        due("he waits", x.person(1, 0), 72);
        due("one more", x.go(1), 3);
        due("four fives", x.purse(2, 1), 4);
        due("a twelve", x.coin(2, 1), 1);
        due("no more than are left", x.go(24), 6);
        due("no more", x.go(1), 6);
        due("all there is", x.count(7), 122);
        ThrownCoins y = told("coins 1 3;lies 0 20;purse 0 1 9;purse 1 1 9;greedy 1;come 0 1");
        due("never throws", y.go(1), 1);
        due("never throws", y.person(0, 0), 27);
        due("greedy throws", y.go(1), 2);
        due("greedy throws", y.person(1, 0), 27 + 17);
        due("none come", new ThrownCoins().go(24), 0);
    }

    private static void plan() {
        sentence("promise 14");
        // By habit he throws nothing: 6 less 6. But with the threes that he gets so, he gets the twos.
        ThrownCoins x = told("coins 2 3 6;law 3;lies 1 2;lies 0 3;purse 0 2 1;greedy 0;come 0 0");
        due("worth", x.plan(0, NONE), 9);
        due("first the six", x.plan(0, 0), 3);
        due("then a three", x.plan(0, 1), 2);
        due("no more", x.plan(0, 2), NONE);
        due("far above", x.plan(0, MOST), NONE);
        due("without visits", x.plan(1, NONE), 0);
        due("without visits", x.plan(1, 0), NONE);
        due("i -2", x.plan(0, -2), OUTSIDE);
        due("far below", x.plan(0, LEAST), OUTSIDE);
        due("person -1", x.plan(-1, -2), UNKNOWN);
        due("person 4", x.plan(4, NONE), UNKNOWN);
        due("nothing changes", x.count(4), 0);
        due("nothing changes", x.person(0, 0), 6);
        // 1 comes first and by habit throws a three for two twos; then all threes are 0's, for a five.
        ThrownCoins y = told("coins 2 3 5;law 3;lies 0 2;lies 1 3;purse 0 2 1;purse 1 1 1;greedy 0;greedy 1;come 1 0 1");
        due("others by habit", y.plan(0, NONE), 12);
        due("his only visit", y.plan(0, 0), 3);
        due("a tie: none comes first", y.plan(1, 0), 0);
        due("a tie: worth", y.plan(1, NONE), 4);
        due("his second", y.plan(1, 1), 2);
        // Either of both gains 2, the other nothing behind it: none as long as may be, then the least kind.
        ThrownCoins z = told("coins 1 2 4;lies 0 4;lies 1 1;purse 0 1 1;purse 0 2 1;come 0 0 0 0 0");
        due("five visits", z.plan(0, NONE), 6 + 2);
        for (int i = 0; i < 4; i++) {
            due("none as long as may be", z.plan(0, i), 0);
        }
        due("then the two", z.plan(0, 4), 2);
        due("no sixth", z.plan(0, 5), NONE);
        due("a four for both twos: 4 less 4 is no gain", told("coins 1 2 4;lies 1 2;purse 0 2 1;come 0").plan(0, 0), 0);
        tell(z, "come 0");
        due("six visits", z.plan(0, NONE), NOT);
        due("outside comes first", z.plan(0, -2), OUTSIDE);
        due("five of them are left", z.go(1) == 1 ? z.plan(0, NONE) : 0, 8);
        due("and 23 of others", told("come 1 1 1 1 1 1 1 1 1;come 0 0 0 0 0 1 1 1 1;come 2 2 2 2 2 2").plan(0, 4), 0);
    }

    private static void game() {
        sentence("promise 15");
        // 1 waits: thrown at first, his three would be 0's. So 0 gets nine for five, and 1 two twos for three, after all.
        ThrownCoins x = told("coins 2 3 5;law 3;lies 0 2;lies 1 3;purse 0 2 1;purse 1 1 1;greedy 0;greedy 1;come 1 0 1");
        due("game(0)", x.game(0), 9);
        due("game(1)", x.game(1), 4);
        due("game(2)", x.game(2), 0);
        due("person -1", x.game(-1), UNKNOWN);
        due("person 4", x.game(4), UNKNOWN);
        due("nothing changes", x.count(7), 13 + 8);
        due("nothing changes", x.count(4), 0);
        sentence("promise 16");
        due("choice(0)", x.choice(0), 0);
        due("choice(1)", x.choice(1), 3);
        due("choice(2)", x.choice(2), 2);
        due("choice(3)", x.choice(3), NONE);
        due("far above", x.choice(MOST), NONE);
        due("choice(-1)", x.choice(-1), OUTSIDE);
        due("far below", x.choice(LEAST), OUTSIDE);
        due("visit", x.visit(1), 100001);
        due("from now", x.choice(0), 3);
        due("from now", x.choice(1), 0);
        due("from now", x.choice(2), NONE);
        sentence("promise 15");
        due("from now", x.game(0), 12);
        // As in plan: 0, who never throws, gets nine for six here.
        ThrownCoins y = told("coins 2 3 6;law 3;lies 1 2;lies 0 3;purse 0 2 1;never 0;come 0 0 1 1 2 3");
        due("whatever the habit", y.game(0), 9);
        due("six visits", y.game(3), 0);
        sentence("promise 16");
        due("six visits", y.choice(5), 0);
        due("his first", y.choice(0), 3);
        due("his second", y.choice(1), 2);
        tell(y, "come 0");
        due("seven visits", y.choice(0), NOT);
        due("seven visits, none such", y.choice(7), NOT);
        due("outside comes first", y.choice(-1), OUTSIDE);
        sentence("promise 15");
        due("seven visits", y.game(0), NOT);
        due("unknown comes first", y.game(4), UNKNOWN);
        due("six are left", y.go(1) == 1 ? y.game(2) : NOT, 0);
        ThrownCoins z = told("coins 1 2 4;lies 0 4;lies 1 1;purse 0 1 1;purse 0 2 1;come 0");
        sentence("promise 16");
        due("of several the least kind", z.choice(0), 2);
        due("no gain: none", told("coins 1 2;lies 0 2;purse 0 1 1;come 0").choice(0), 0);
    }

    private static void league() {
        sentence("promise 17");
        // Alone, 1 gains 1 by his two; together 0's one takes all three ones and gains 2.
        ThrownCoins x = told("coins 1 2;law 1;lies 0 3;purse 0 0 1;purse 1 1 1;greedy 0;greedy 1;come 1 0");
        due("league", x.league(0, 1), 5);
        due("either way", x.league(1, 0), 5);
        due("less by game", x.game(0) + x.game(1), 4);
        due("with one who never comes", x.league(1, 3), 3);
        due("with himself", x.league(2, 2), OUTSIDE);
        due("one 4", x.league(4, 4), UNKNOWN);
        due("other 4", x.league(0, 4), UNKNOWN);
        due("one -1", x.league(-1, 0), UNKNOWN);
        due("other -1", x.league(0, -1), UNKNOWN);
        due("nothing changes", x.count(7), 6);
        ThrownCoins y = told("coins 2 3 5;law 3;lies 0 2;lies 1 3;purse 0 2 1;purse 1 1 1;greedy 0;greedy 1;come 1 0 1 0 0");
        due("five of both", y.league(0, 1), 16);
        tell(y, "come 2 2 2 2");
        due("nine of all", y.league(0, 1), 16);
        tell(y, "come 1");
        due("six of both", y.league(0, 1), NOT);
        due("outside comes first", y.league(0, 0), OUTSIDE);
        due("five of these", y.league(0, 3), 12);
    }

    private static void mean() {
        sentence("promise 18");
        // There, 1 takes the four ones; away, 0 gains 1 by his three: 3 or 4 in the end.
        ThrownCoins x = told("coins 1 3;lies 0 4;purse 0 1 1;purse 1 1 1;greedy 0;greedy 1;come 1 0");
        long[][] due = {{4, 1}, {39, 10}, {19, 5}, {37, 10}, {18, 5}, {7, 2}, {17, 5}, {33, 10}, {16, 5}, {31, 10}, {3, 1}};
        for (int p = 0; p <= 10; p++) {
            due("mean(0, " + p + ", 0)", x.mean(0, p, 0), due[p][0]);
            due("mean(0, " + p + ", 1)", x.mean(0, p, 1), due[p][1]);
        }
        due("his own is certain", x.mean(1, 0, 0), 4);
        due("his own is certain", x.mean(1, 3, 1), 1);
        due("nothing: 0 of 1", x.mean(2, 3, 0), 0);
        due("nothing: 0 of 1", x.mean(2, 3, 1), 1);
        due("p -1", x.mean(0, -1, 0), OUTSIDE);
        due("p 11", x.mean(0, 11, 0), OUTSIDE);
        due("part -1", x.mean(0, 5, -1), OUTSIDE);
        due("part 2", x.mean(0, 5, 2), OUTSIDE);
        due("person -1", x.mean(-1, 11, 0), UNKNOWN);
        due("person 4", x.mean(4, 5, 2), UNKNOWN);
        due("nothing changes", x.count(4), 0);
        due("nothing changes", x.coin(0, 1), 4);
        ThrownCoins y = told("coins 1;law 1;lies 0 4;purse 0 0 1;purse 1 0 1;greedy 0;greedy 1;come 1 0");
        due("with kind 0: 4 or 1", y.mean(0, 5, 0), 5);
        due("with kind 0: 4 or 1", y.mean(0, 5, 1), 2);
        tell(x, "alone;come 1 1 0");
        due("each by itself", x.mean(0, 3, 0), 349);
        due("each by itself", x.mean(0, 3, 1), 100);
        tell(x, "alone;come 1 1 1 1 1 1 1 1 1;come 0");
        // 3 + 0.7 to the ninth.
        due("ten visits", x.mean(0, 3, 0), 3040353607L);
        due("ten visits", x.mean(0, 3, 1), 1000000000L);
        tell(x, "come 1");
        due("eleven visits", x.mean(0, 3, 0), NOT);
        due("outside comes first", x.mean(0, 11, 0), OUTSIDE);
        due("ten are left", x.go(1) == 1 ? x.mean(0, 3, 0) : 0, 3);
    }

    private static void dry() {
        sentence("promise 19");
        due("without visits", new ThrownCoins().dry(), NONE);
        ThrownCoins x = told("coins 1 3;lies 0 4;purse 0 1 1;greedy 0;come 0 1 2");
        due("a throw and a round", x.dry(), 4);
        due("nothing changes", x.count(4), 0);
        due("nothing changes", x.coin(0, 1), 4);
        due("one without a throw", x.visit(NONE), 100000);
        due("two, then a throw and a round", x.dry(), 6);
        due("all have gone", x.go(24), 3);
        due("from the first one on", x.dry(), 4);
        tell(x, "alone;come 0");
        due("a throw and one visit", x.dry(), 2);
        tell(x, "never 0");
        due("no throw", x.dry(), 1);
        tell(x, "come 0 0 0 0 0 0 0 0;come 0 0 0 0 0 0 0 0;come 0 0 0 0 0 0 0");
        due("24 without a throw", x.dry(), 24);
        // 0 takes the ones for a three at the second visit, 1 all threes for a five at the fourth.
        ThrownCoins y = told("coins 1 3 5;law 3;lies 0 4;lies 1 5;purse 0 1 1;purse 1 2 1;cheap 0;cheap 1;come 2 0 2 1");
        due("two throws in one round", y.dry(), 8);
    }

    private static void bait() {
        sentence("promise 20");
        // A five asks for six: now nine ones lie there.
        due("he would as it is", told(MARKET).bait(0), 0);
        ThrownCoins x = told("coins 1 2 4 9;purse 0 3 1;greedy 0");
        due("three coins above 9: 2 + 4 + 4", x.bait(0), 10);
        due("who has nothing", x.bait(1), NONE);
        due("person -1", x.bait(-1), UNKNOWN);
        due("person 4", x.bait(4), UNKNOWN);
        due("nothing changes", x.count(1), 0);
        tell(x, "waiting 0 3");
        due("bound 3: 4 + 4 + 4", x.bait(0), 12);
        tell(x, "waiting 0 4");
        due("bound 4 is too much", x.bait(0), NONE);
        tell(x, "lies 1 1");
        due("with what lies there: 4 + 4 + 4", x.bait(0), 12);
        tell(x, "never 0;lies 1 20");
        due("who never throws", x.bait(0), NONE);
        ThrownCoins y = told("coins 1 2 4 9;purse 0 1 1;cheap 0");
        due("three ones", y.bait(0), 3);
        tell(y, "lies 0 1");
        due("two ones", y.bait(0), 2);
        tell(y, "lies 0 2");
        due("a one", y.bait(0), 1);
        tell(y, "lies 0 0;law 1");
        due("by law 1 another two and a one", y.bait(0), 3);
        tell(y, "law 2");
        due("by law 2 never", y.bait(0), NONE);
        due("one dear coin", told("coins 5 7;law 1;purse 0 0 1;cheap 0").bait(0), 10);
    }

    private static void noteAndForget() {
        sentence("promise 21");
        ThrownCoins x = told("coins 1 2");
        due("note", x.note(0, 0), 1);
        due("note", x.note(1, 9999), 2);
        due("kind -1", x.note(-1, 0), UNKNOWN);
        due("kind 2", x.note(2, -1), UNKNOWN);
        due("w -1", x.note(0, -1), OUTSIDE);
        due("w 10000", x.note(0, 10000), OUTSIDE);
        due("far off", x.note(0, LEAST), OUTSIDE);
        for (int i = 3; i <= 6; i++) {
            due("note", x.note(0, 1), i);
        }
        due("seventh", x.note(0, 0), FULL);
        due("outside comes first", x.note(0, -1), OUTSIDE);
        due("unknown comes first", x.note(2, 0), UNKNOWN);
        due("six", x.count(5), 6);
        sentence("promise 22");
        due("forget", x.forget(), 6);
        due("forget again", x.forget(), 0);
        due("none", x.count(5), 0);
        due("all may lie there", x.lay(0), 16);
        sentence("promise 21");
        due("from the first again", x.note(1, 0), 1);
    }

    private static void lay() {
        sentence("promise 23");
        ThrownCoins x = told("coins 1 2 4");
        due("without notes", x.lay(0), 64);
        due("without notes", x.lay(1), 0);
        due("without notes", x.lay(12), 0);
        due("without notes", x.lay(22), 3);
        // Kinds 0 and 1 are worth 5 together: 1 + 2 + 2 or 1 + 1 + 1 + 2.
        due("a four took five", x.note(2, 5), 1);
        lay(x, 8, 16 + 2 * 4, 1, 3, 1, 2, 0, 3);
        // What is thrown lies there: the four is not below a four.
        due("then a four took nothing", x.note(2, 0), 2);
        lay(x, 8, 16 + 2 * 4, 1, 3, 1, 2, 0, 3);
        due("then a two took a one", x.note(1, 1), 3);
        lay(x, 0, NONE, NONE, NONE, NONE, NONE, NONE, NONE);
        due("forget", x.forget(), 3);
        due("visits do not touch it", x.go(1), 0);
        int[] outside = {-1, 2, 9, 13, 19, 23, 30, LEAST, MOST};
        for (int what : outside) {
            due("lay(" + what + ")", x.lay(what), OUTSIDE);
        }
        tell(x, "law 1");
        due("a two took three", x.note(1, 3), 1);
        lay(x, 8, 16 + 4, 1, 3, 0, 1, 0, 3);
        due("then a two took its like", x.note(1, 2), 2);
        lay(x, 8, 16 + 4, 1, 3, 0, 1, 0, 3);
        tell(x, "law 2");
        due("a four took a one: no two lay there", x.note(2, 1), 1);
        lay(x, 12, 16, 1, 3, 0, 0, 0, 3);
        due("then another", x.note(2, 1), 2);
        lay(x, 8, 32, 2, 3, 0, 0, 0, 3);
        tell(x, "law 3");
        due("a four took two ones: no two lay there", x.note(2, 2), 1);
        due("or one two", x.lay(0), 4 + 16);
        due("then a two took nothing", x.note(1, 0), 2);
        lay(x, 8, 4, 0, 2, 0, 1, 0, 3);
        ThrownCoins four = told("coins 1 2 3 4");
        due("four kinds", four.lay(0), 256);
        due("kind 3", four.lay(23), 3);
        due("a four took all", four.note(3, 18), 1);
        due("the first", four.lay(1), 63 * 4);
        tell(four, "coins 1 2 3 4 5");
        due("five kinds", four.lay(0), NOT);
        due("five kinds", four.lay(14), NOT);
        due("outside comes first", four.lay(15), OUTSIDE);
        due("one kind", new ThrownCoins().lay(20), 3);
        due("one kind", new ThrownCoins().lay(21), OUTSIDE);
    }

    private static void lay(ThrownCoins x, int... due) {
        int[] asked = {0, 1, 10, 20, 11, 21, 12, 22};
        for (int i = 0; i < asked.length; i++) {
            due("lay(" + asked[i] + ")", x.lay(asked[i]), due[i]);
        }
    }

    private static void keepAndBack() {
        sentence("promise 24");
        ThrownCoins x = told(MARKET, MARKET_COMES);
        due("k -1", x.keep(-1), UNKNOWN);
        due("k 2", x.keep(2), UNKNOWN);
        due("keep(0)", x.keep(0), 0);
        due("go", x.go(3), 3);
        due("keep(1)", x.keep(1), 3);
        due("note", x.note(0, 0), 1);
        sentence("promise 25");
        due("k -1", x.back(-1), UNKNOWN);
        due("k 2", x.back(2), UNKNOWN);
        due("back(0)", x.back(0), 0);
        due("gone", x.count(4), 0);
        due("wealth", x.person(0, 0), 10);
        due("lies", x.coin(0, 1), 9);
        due("notes stay", x.count(5), 1);
        due("back(1)", x.back(1), 3);
        due("wealth", x.person(0, 0), 14);
        due("wealth", x.person(2, 0), 24);
        due("lies", x.coin(2, 1), 1);
        due("go", x.go(1), 4);
        sentence("promise 24");
        due("over the older", x.keep(0), 4);
        sentence("promise 25");
        due("the newer", x.back(0), 4);
        due("it stays kept", x.go(1) == 5 ? x.back(0) : 0, 4);
        tell(x, "law 1");
        due("nothing since the text", x.back(0), NOT);
        due("nothing since the text", x.back(1), NOT);
        sentence("promise 24");
        due("keep(1)", x.keep(1), 0);
        sentence("promise 25");
        due("only the other", x.back(0), NOT);
        due("back(1)", x.back(1), 0);
        // What was foretold ahead of a change is not answered behind it.
        due("a second visit", x.plan(0, 1), 0);
        due("go", x.go(1), 1);
        due("no second", x.plan(0, 1), NONE);
        due("back(1)", x.back(1), 0);
        due("a second", x.plan(0, 1), 0);
        due("visit", x.visit(NONE), 100000);
        due("no second", x.plan(0, 1), NONE);
        tell(x, "law 0");
        due("a second", x.plan(0, 1), 0);
    }

    private static void count() {
        sentence("promise 26");
        ThrownCoins x = told(MARKET, MARKET_COMES + ";law 3");
        due("go", x.go(1), 1);
        due("note", x.note(3, 0), 1);
        writeText(x, "law 1;");
        int[] due = {4, 20, 3, 6, 1, 1, 6, 122};
        for (int what = 0; what < 8; what++) {
            due("count(" + what + ")", x.count(what), due[what]);
        }
        due("count(-1)", x.count(-1), OUTSIDE);
        due("count(8)", x.count(8), OUTSIDE);
        due("far off", x.count(MOST), OUTSIDE);
    }

    /** What is foretold, asked or refused leaves all as it was. */
    private static void nothingChanges() {
        sentence("promise 26");
        ThrownCoins x = told(MARKET, MARKET_COMES);
        x.go(2);
        x.note(1, 9);
        x.write('x', 1);
        long before = state(x);
        for (int a = -2; a < 6; a++) {
            for (int b = -2; b < 7; b++) {
                x.coin(a, b);
                x.purse(a, b);
                x.person(a, b);
                x.as(a, b);
                x.gain(a, b);
                x.plan(a, b);
                x.league(a, b);
                x.mean(a, b, 0);
            }
        }
        for (int a = -2; a < 6; a++) {
            x.game(a);
            x.choice(a);
            x.bait(a);
            x.come(a);
            x.lay(a);
        }
        x.fault();
        x.dry();
        x.sunday();
        x.visit(4);
        x.visit(3);
        x.go(0);
        x.go(25);
        x.back(0);
        x.back(2);
        x.write(0, 9);
        x.note(4, 0);
        x.note(0, -1);
        due("the whole state", state(x), before);
    }

    private static long state(ThrownCoins x) {
        long state = 0;
        for (int what = 0; what < 8; what++) {
            state = 31 * state + x.count(what);
        }
        for (int kind = 0; kind < 4; kind++) {
            state = 31 * state + x.coin(kind, 0) + 1009 * x.coin(kind, 1);
            for (int person = 0; person < 4; person++) {
                state = 31 * state + x.purse(person, kind) + 1009 * x.person(person, kind);
            }
        }
        return state;
    }
}
