/** Throws, habits and visits: each sentence that names a boundary, at the boundary and on either side of it. */
public final class EdgesOfThrowsTest extends Asking {
    private static final int WITHOUT = 100000;
    private static final int[] WORTHS = {1, 5, 12, 60};
    private static final String ALL_COME = "come 0 1 2 3 0 1 2 3;come 0 1 2 3 0 1 2 3;come 0 1 2 3 0 1 2 3";

    public static void main(String[] args) {
        belowTheKind();
        toTheKind();
        oneOfTheGreatest();
        allOfTheGreatest();
        moreThanTwenty();
        dearestThrows();
        hasACoin();
        greedy();
        waiting();
        cheap();
        never();
        habitsOverOneAnother();
        ofOnePerson();
        whoComes();
        visits();
        going();
        end("throws and visits go as due");
    }

    /** Each throws a kind of which he has one, into what lies there: what it gains and what lies there then. */
    private static void thrown(int law, int kind, String lies, int gained, String lieThen) {
        String house = "coins 1 5 12 60;law " + law + ";alone;come 2 2;purse 2 " + kind + " 1";
        String[] before = lies.split(" ");
        String[] behind = lieThen.split(" ");
        for (int i = 0; i < 4; i++) {
            house += ";lies " + i + " " + before[i];
        }
        ThrownCoins x = told(house);
        String call = "kind " + kind + " by law " + law + " over " + lies;
        due("gain of " + call, x.gain(2, kind), WITHOUT + gained);
        due("visit of " + call, x.visit(kind), WITHOUT + gained);
        for (int i = 0; i < 4; i++) {
            int then = Integer.parseInt(behind[i]);
            due("lies of " + i + " behind " + call, x.coin(i, 1), then);
            int taken = Integer.parseInt(before[i]) - then + (i == kind ? 1 : 0);
            due("had of " + i + " behind " + call, x.purse(2, i), taken);
        }
        due("had behind " + call, x.person(2, 0), WORTHS[kind] + gained);
    }

    private static void belowTheKind() {
        sentence("by LAW 0 all that lies there of KINDS below k; then the COIN lies there");
        thrown(0, 0, "2 1 3 4", -1, "3 1 3 4");
        thrown(0, 1, "2 1 3 4", 2 - 5, "0 2 3 4");
        thrown(0, 2, "2 1 3 4", 7 - 12, "0 0 4 4");
        thrown(0, 3, "2 1 3 4", 43 - 60, "0 0 0 5");
        thrown(0, 2, "0 1 0 0", 5 - 12, "0 0 1 0");
        thrown(0, 2, "9 0 0 0", 9 - 12, "0 0 1 0");
        thrown(0, 2, "0 0 3 4", -12, "0 0 4 4");
        thrown(0, 3, "0 0 0 0", -60, "0 0 0 1");
        thrown(0, 3, "20 20 20 20", 360 - 60, "0 0 0 21");
    }

    private static void toTheKind() {
        sentence("by 1 all that lies there of KINDS to k; then the COIN lies there");
        thrown(1, 0, "2 1 3 4", 2 - 1, "1 1 3 4");
        thrown(1, 0, "1 1 3 4", 0, "1 1 3 4");
        thrown(1, 0, "0 1 3 4", -1, "1 1 3 4");
        thrown(1, 1, "2 1 3 4", 7 - 5, "0 1 3 4");
        thrown(1, 2, "2 1 3 4", 43 - 12, "0 0 1 4");
        thrown(1, 3, "2 1 3 4", 283 - 60, "0 0 0 1");
        thrown(1, 2, "0 0 0 4", -12, "0 0 1 4");
        thrown(1, 3, "0 0 0 20", 1140, "0 0 0 1");
    }

    private static void oneOfTheGreatest() {
        sentence("by 2 one COIN of the greatest KIND below k of which one lies there");
        thrown(2, 0, "2 1 3 4", -1, "3 1 3 4");
        thrown(2, 1, "2 1 3 4", 1 - 5, "1 2 3 4");
        thrown(2, 1, "1 1 3 4", 1 - 5, "0 2 3 4");
        thrown(2, 2, "2 1 3 4", 5 - 12, "2 0 4 4");
        thrown(2, 2, "2 2 3 4", 5 - 12, "2 1 4 4");
        thrown(2, 2, "2 0 3 4", 1 - 12, "1 0 4 4");
        thrown(2, 2, "0 0 3 4", -12, "0 0 4 4");
        thrown(2, 3, "2 1 3 4", 12 - 60, "2 1 2 5");
        thrown(2, 3, "1 0 0 4", 1 - 60, "0 0 0 5");
    }

    private static void allOfTheGreatest() {
        sentence("by 3 all of the greatest KIND below k of which one lies there");
        thrown(3, 0, "2 1 3 4", -1, "3 1 3 4");
        thrown(3, 1, "2 1 3 4", 2 - 5, "0 2 3 4");
        thrown(3, 2, "2 1 3 4", 5 - 12, "2 0 4 4");
        thrown(3, 2, "2 4 3 4", 20 - 12, "2 0 4 4");
        thrown(3, 2, "2 0 3 4", 2 - 12, "0 0 4 4");
        thrown(3, 2, "0 0 3 4", -12, "0 0 4 4");
        thrown(3, 3, "2 1 3 4", 36 - 60, "2 1 0 5");
        thrown(3, 3, "2 1 0 4", 5 - 60, "2 0 0 5");
        thrown(3, 3, "20 0 0 4", 20 - 60, "0 0 0 5");
    }

    private static void moreThanTwenty() {
        sentence("0 .. 20 is for what is told: a THROW lies there, and one TAKES, all the same");
        ThrownCoins x = told("coins 1 5;lies 0 20;lies 1 20;purse 0 0 20;purse 0 1 20;come 0 0 0 0");
        due("a twenty-first one", x.visit(0), 99999);
        due("lies", x.coin(0, 1), 21);
        due("has", x.purse(0, 0), 19);
        due("21 ones for a five", x.visit(1), 100016);
        due("lies", x.coin(1, 1), 21);
        due("has", x.purse(0, 0), 40);
        due("a five for nothing", x.visit(1), 99995);
        due("lies", x.coin(1, 1), 22);
        due("has", x.purse(0, 1), 18);
        due("all there is", x.count(7), 240);
    }

    private static void dearestThrows() {
        sentence("GAIN is WORTH of all that one TAKES less that of the COIN");
        ThrownCoins x = told("coins 994 995 996 997 998 999;purse 0 5 1;law 1;come 0",
                "lies 0 20;lies 1 20;lies 2 20;lies 3 20;lies 4 20;lies 5 20");
        int all = 20 * 5979;
        due("the greatest gain", x.gain(0, 5), WITHOUT + all - 999);
        due("the greatest gain", x.visit(5), WITHOUT + all - 999);
        due("the richest", x.person(0, 0), all);
        due("the least gain", told("coins 999;purse 0 0 1;come 0").visit(0), WITHOUT - 999);
        due("no gain", told("coins 999;law 1;lies 0 1;purse 0 0 1").gain(0, 0), WITHOUT);
    }

    private static void hasACoin() {
        sentence("A THROW of a KIND k of which one has a COIN; NOT: he has no such COIN");
        ThrownCoins x = told("coins 1 5;lies 0 9;purse 1 1 1;come 1 1");
        due("one has one", x.gain(1, 1), 100004);
        due("one has none", x.gain(1, 0), NOT);
        due("another has none", x.gain(0, 1), NOT);
        due("he throws his last", x.visit(1), 100004);
        due("he has no more", x.gain(1, 1), NOT);
        due("he has no more", x.visit(1), NOT);
        due("what he took, he has", x.gain(1, 0), 99999);
        due("what he took, he throws", x.visit(0), 99999);
        due("no visit is left", x.visit(0), NOT);
        due("kind c less 1", x.gain(1, 1), NOT);
        due("kind c", x.gain(1, 2), UNKNOWN);
        due("kind -1", x.gain(1, -1), UNKNOWN);
    }

    private static void habit(int due, String... lines) {
        ThrownCoins x = told("coins 2 3 7 9;law 0;come 0", String.join(";", lines));
        String call = String.join(";", lines);
        due("would throw by " + call, x.as(0, 0), due);
        long had = x.person(0, 0);
        int gained = due == NONE ? 0 : x.gain(0, due) - WITHOUT;
        due("go by " + call, x.go(1), 1);
        due("gained by " + call, x.person(0, 0) - had, gained);
    }

    private static void greedy() {
        sentence("GREEDY throws the KIND (of those of which he has a COIN) with the greatest GAIN, if that is above 0");
        habit(NONE, "greedy 0");
        habit(NONE, "greedy 0", "lies 0 9");
        habit(NONE, "greedy 0", "purse 0 1 1");
        habit(NONE, "greedy 0", "purse 0 1 1", "lies 0 1");
        habit(1, "greedy 0", "purse 0 1 1", "lies 0 2");
        habit(NONE, "greedy 0", "purse 0 3 1", "lies 1 3");
        habit(NONE, "greedy 0", "purse 0 3 1", "lies 0 1", "lies 2 1");
        habit(3, "greedy 0", "purse 0 3 1", "lies 1 1", "lies 2 1");
        // A seven takes 8 of the twos; a nine 8 and the seven's likes.
        habit(2, "greedy 0", "purse 0 2 1", "purse 0 3 1", "lies 0 4");
        // By a three 5, by a seven 10, by a nine 8.
        habit(2, "greedy 0", "purse 0 1 1", "purse 0 2 1", "purse 0 3 1", "lies 0 4", "lies 1 3");
        habit(3, "greedy 0", "purse 0 2 1", "purse 0 3 1", "lies 0 4", "lies 2 1");
        habit(3, "greedy 0", "purse 0 3 1", "lies 0 5");
        habit(1, "greedy 0", "purse 0 1 1", "purse 0 2 1", "lies 0 4");
        habit(0, "greedy 0", "purse 0 0 1", "lies 0 2", "law 1");
        habit(NONE, "greedy 0", "purse 0 0 1", "lies 0 1", "law 1");
        sentence("GREEDY: of several the least");
        // By law 3: 8 less 3, 12 less 7, 14 less 9; then one of these is less.
        String three = "law 3;purse 0 1 1;purse 0 2 1;purse 0 3 1";
        habit(1, "greedy 0", three, "lies 0 4", "lies 1 4", "lies 2 2");
        habit(2, "greedy 0", three, "lies 0 3", "lies 1 4", "lies 2 2");
        habit(3, "greedy 0", three, "lies 0 3", "lies 1 3", "lies 2 2");
        habit(1, "greedy 0", three, "lies 0 4", "lies 1 3", "lies 2 2");
        // Greater by 1: 1 and 2; then 9, 11 and 5; then 9, 11 and 12.
        habit(2, "greedy 0", three, "lies 0 2", "lies 1 3");
        habit(2, "greedy 0", three, "lies 0 6", "lies 1 6", "lies 2 2");
        habit(3, "greedy 0", three, "lies 0 6", "lies 1 6", "lies 2 3");
        ThrownCoins x = told("coins 1 2 4;lies 0 4;lies 1 1;purse 0 1 1;purse 0 2 1;greedy 0");
        due("two and four gain 2 each", x.as(0, 0), 1);
        tell(x, "lies 1 0");
        due("the two gains more", x.as(0, 0), 1);
        tell(x, "lies 1 2");
        due("the four gains more", x.as(0, 0), 2);
        tell(x, "lies 1 1;purse 0 1 0");
        due("only of those that he has", x.as(0, 0), 2);
    }

    private static void waiting() {
        sentence("WAITING likewise, if it is his BOUND or more, too");
        String[] rich = {"purse 0 1 1", "lies 0 10"};
        habit(1, "waiting 0 16", rich[0], rich[1]);
        habit(1, "waiting 0 17", rich[0], rich[1]);
        habit(NONE, "waiting 0 18", rich[0], rich[1]);
        habit(NONE, "waiting 0 99", rich[0], rich[1]);
        habit(1, "waiting 0 0", rich[0], rich[1]);
        habit(1, "waiting 0 0", "purse 0 1 1", "lies 0 2");
        habit(1, "waiting 0 1", "purse 0 1 1", "lies 0 2");
        habit(NONE, "waiting 0 2", "purse 0 1 1", "lies 0 2");
        habit(NONE, "waiting 0 0", "purse 0 1 1", "lies 0 1");
        habit(NONE, "waiting 0 0", "purse 0 3 1", "lies 1 3");
        habit(NONE, "waiting 0 0");
        // The greatest, and not the first that is enough: 5 and 10.
        habit(2, "waiting 0 5", "purse 0 1 1", "purse 0 2 1", "lies 0 4", "lies 1 3");
        habit(2, "waiting 0 10", "purse 0 1 1", "purse 0 2 1", "lies 0 4", "lies 1 3");
        habit(NONE, "waiting 0 11", "purse 0 1 1", "purse 0 2 1", "lies 0 4", "lies 1 3");
        ThrownCoins x = told("coins 1 2 4;lies 0 4;lies 1 1;purse 0 1 1;purse 0 2 1;waiting 0 2");
        due("of several the least", x.as(0, 0), 1);
        due("bound 98, gain 99", told("coins 10 11;lies 0 11;purse 0 1 1;waiting 0 98").as(0, 0), 1);
        due("bound 99, gain 99", told("coins 10 11;lies 0 11;purse 0 1 1;waiting 0 99").as(0, 0), 1);
        due("bound 99, gain 98", told("coins 10 12;lies 0 11;purse 0 1 1;waiting 0 99").as(0, 0), NONE);
    }

    private static void cheap() {
        sentence("CHEAP the least KIND with a GAIN above 0");
        habit(NONE, "cheap 0");
        habit(NONE, "cheap 0", "lies 0 20");
        habit(NONE, "cheap 0", "purse 0 1 1", "lies 0 1");
        habit(1, "cheap 0", "purse 0 1 1", "lies 0 2");
        habit(NONE, "cheap 0", "purse 0 3 1", "lies 1 3");
        habit(1, "cheap 0", "purse 0 1 1", "purse 0 2 1", "lies 0 4", "lies 1 3");
        habit(2, "cheap 0", "purse 0 2 1", "purse 0 3 1", "lies 0 4", "lies 1 3");
        // A three gains 1 less than nothing, a seven 1; then a seven 5 less than nothing, a nine 7.
        habit(2, "cheap 0", "purse 0 1 1", "purse 0 2 1", "lies 0 1", "lies 1 2");
        habit(3, "cheap 0", "purse 0 1 1", "purse 0 2 1", "purse 0 3 1", "lies 0 1", "lies 2 2");
        habit(0, "cheap 0", "purse 0 0 1", "purse 0 3 1", "lies 0 2", "lies 3 9", "law 1");
    }

    private static void never() {
        sentence("who NEVER throws does not");
        habit(NONE, "never 0", "purse 0 1 1", "lies 0 20");
        habit(NONE, "greedy 0;never 0", "purse 0 1 1", "lies 0 20");
        habit(NONE, "waiting 0 0;never 0", "purse 0 1 1", "lies 0 20");
        due("as at first", told("coins 1 2;lies 0 20;purse 0 1 1").as(0, 0), NONE);
    }

    private static void habitsOverOneAnother() {
        sentence("NEVER (1) is FOLK; THROWER (2) is FOLK; GREEDY (3) is a THROWER; WAITING (4) is GREEDY; CHEAP (5) is a THROWER");
        String house = "coins 1 5 12;lies 0 9;lies 1 3;purse 1 1 1;purse 1 2 1;";
        String[] lines = {"never 1", "greedy 1", "waiting 1 12", "waiting 1 13", "cheap 1"};
        int[][] due = {
            {NONE, NONE, NOT, NOT, NOT, NOT},
            {2, NOT, 2, 2, NOT, NOT},
            {2, NOT, 2, 2, 2, NOT},
            {NONE, NOT, NONE, NONE, NONE, NOT},
            {1, NOT, 1, NOT, NOT, 1},
        };
        for (int i = 0; i < lines.length; i++) {
            ThrownCoins x = told(house + lines[i]);
            for (int habit = 0; habit < 6; habit++) {
                due(lines[i] + " as(1, " + habit + ")", x.as(1, habit), due[i][habit]);
            }
            due("as(1, -1)", x.as(1, -1), OUTSIDE);
            due("as(1, 6)", x.as(1, 6), OUTSIDE);
            due("as(3, 1)", x.as(3, 1), NONE);
            due("as(3, 2)", x.as(3, 2), NOT);
            due("as(4, 0)", x.as(4, 0), UNKNOWN);
            due("as(-1, 0)", x.as(-1, 0), UNKNOWN);
        }
    }

    private static void ofOnePerson() {
        sentence("person: WORTH of the PURSE (what 0), HABIT (1), BOUND (2; NONE of one that is not WAITING), VISITS left (3)");
        ThrownCoins x = told("coins 1 5 12;purse 3 0 3;purse 3 2 2;waiting 3 0;come 3 1 3 3");
        int[] answers = {27, 2, 0, 3};
        for (int what = 0; what < 4; what++) {
            due("person(3, " + what + ")", x.person(3, what), answers[what]);
        }
        due("what -1", x.person(3, -1), OUTSIDE);
        due("what 4", x.person(3, 4), OUTSIDE);
        int[] leftOfThree = {2, 2, 1, 0, 0};
        int[] leftOfOne = {1, 0, 0, 0, 0};
        for (int i = 0; i < 5; i++) {
            due("go", x.go(1), Math.min(i + 1, 4));
            due("left of 3", x.person(3, 3), leftOfThree[i]);
            due("left of 1", x.person(1, 3), leftOfOne[i]);
            due("left of 0", x.person(0, 3), 0);
        }
        due("24 are left", told("come 2 2 2 2 2 2 2 2 2;come 2 2 2 2 2 2 2 2 2;come 2 2 2 2 2 2").person(2, 3), 24);
        String[] bare = {"never 3", "greedy 3", "cheap 3"};
        for (String line : bare) {
            due("bound by " + line, told("waiting 3 5", line).person(3, 2), NONE);
        }
        due("bound 99", told("waiting 3 99").person(3, 2), 99);
    }

    private static void whoComes() {
        sentence("come: whose the VISIT t is (from 0); NONE: there are not so many; OUTSIDE: t below 0");
        ThrownCoins x = told("come 2");
        due("come(-1)", x.come(-1), OUTSIDE);
        due("come(0)", x.come(0), 2);
        due("come(1)", x.come(1), NONE);
        due("come far off", x.come(MOST), NONE);
        due("come far off", x.come(LEAST), OUTSIDE);
        due("go", x.go(1), 1);
        due("whose it was", x.come(0), 2);
        due("and no more", x.come(1), NONE);
        tell(x, "alone;" + ALL_COME);
        for (int t = 0; t < 24; t++) {
            due("come(" + t + ")", x.come(t), t % 4);
        }
        due("come(24)", x.come(24), NONE);
        due("come(25)", x.come(25), NONE);
        due("come(-1)", x.come(-1), OUTSIDE);
        tell(x, "alone");
        due("come(0)", x.come(0), NONE);
        due("come(-1)", x.come(-1), OUTSIDE);
    }

    private static void visits() {
        sentence("visit: he throws a KIND (NONE: none): GAIN, and 100000 (100000 without); NOT: there is no VISIT left");
        ThrownCoins x = told("coins 1 5 12;lies 0 5;purse 1 1 1;purse 2 2 1;come 1 2 1");
        due("kind 3", x.visit(3), UNKNOWN);
        due("kind -2", x.visit(-2), UNKNOWN);
        due("the next one's has none", x.visit(2), NOT);
        due("a gain of 0", x.visit(1), WITHOUT);
        due("one has gone", x.count(4), 1);
        due("kind c less 1", x.visit(2), WITHOUT + 5 - 12);
        due("two have gone", x.count(4), 2);
        due("the last", x.visit(NONE), WITHOUT);
        due("three have gone", x.count(4), 3);
        due("none is left", x.visit(NONE), NOT);
        due("none is left", x.visit(0), NOT);
        due("unknown comes first", x.visit(3), UNKNOWN);
        due("three have gone", x.count(4), 3);
        ThrownCoins empty = told("coins 1 5;purse 0 1 1");
        due("nobody comes", empty.visit(NONE), NOT);
        due("nobody comes", empty.visit(1), NOT);
        due("nobody comes", empty.visit(2), UNKNOWN);
        ThrownCoins never = told("coins 1 5;lies 0 6;purse 0 1 1;never 0;come 0");
        due("as is told, not by habit", never.visit(1), 100001);
        ThrownCoins greedy = told("coins 1 5;lies 0 6;purse 0 1 1;greedy 0;come 0");
        due("as is told, not by habit", greedy.visit(NONE), WITHOUT);
        due("nothing was thrown", greedy.coin(0, 1), 6);
    }

    private static void going() {
        sentence("go: n VISITS (1 .. 24) go BY HABIT, no more than are left: how many have gone in all");
        ThrownCoins x = told("coins 1 2;lies 0 3;purse 0 1 2;purse 1 1 1;greedy 0;cheap 1;come 2 0 1 0");
        due("go(0)", x.go(0), OUTSIDE);
        due("go(-1)", x.go(-1), OUTSIDE);
        due("go(25)", x.go(25), OUTSIDE);
        due("far off", x.go(MOST), OUTSIDE);
        due("far off", x.go(LEAST), OUTSIDE);
        due("none has gone", x.count(4), 0);
        due("one", x.go(1), 1);
        due("nothing is thrown", x.coin(0, 1), 3);
        due("two more", x.go(2), 3);
        due("0 has three ones", x.purse(0, 0), 3);
        due("1 found none", x.purse(1, 0), 0);
        due("one is left", x.go(2), 4);
        due("none is left", x.go(1), 4);
        due("none is left", x.go(24), 4);
        due("outside all the same", x.go(0), OUTSIDE);
        due("outside all the same", x.go(25), OUTSIDE);
        ThrownCoins full = told(ALL_COME);
        due("23", full.go(23), 23);
        due("one is left", full.person(3, 3), 1);
        due("24", full.go(24), 24);
        tell(full, "law 0");
        due("24 at once", full.go(24), 24);
        due("none", new ThrownCoins().go(1), 0);
    }
}
