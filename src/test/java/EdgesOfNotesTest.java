/** Notes, what lay there, what is kept, and what is counted: each boundary, at it and on either side of it. */
public final class EdgesOfNotesTest extends Asking {
    private static final int WITHOUT = 100000;

    public static void main(String[] args) {
        notesAtMost();
        notedWorths();
        forgotten();
        layOfKinds();
        layAsked();
        layByLaw();
        layOfSeveralNotes();
        noneLay();
        kept();
        foretoldBehindBack();
        notKept();
        counts();
        coinsAndPurses();
        lastCalls();
        end("notes, keeps and counts are as due");
    }

    private static void notesAtMost() {
        sentence("NOTES, 6 at most");
        ThrownCoins x = told("coins 1 2");
        for (int i = 1; i <= 6; i++) {
            due("before note " + i, x.count(5), i - 1);
            due("note " + i, x.note(i % 2, i % 2), i);
        }
        due("a seventh", x.note(0, 0), FULL);
        due("six", x.count(5), 6);
        due("unknown comes first", x.note(2, 0), UNKNOWN);
        due("unknown comes first", x.note(-1, 10000), UNKNOWN);
        due("outside comes first", x.note(0, -1), OUTSIDE);
        due("outside comes first", x.note(0, 10000), OUTSIDE);
        due("six", x.count(5), 6);
        due("forget", x.forget(), 6);
        due("the first again", x.note(0, 0), 1);
    }

    private static void notedWorths() {
        sentence("A NOTE: a KIND was thrown, WORTH of w (0 .. 9999) was taken");
        int[] right = {0, 1, 9998, 9999};
        for (int w : right) {
            due("note(0, " + w + ")", new ThrownCoins().note(0, w), 1);
        }
        int[] wrong = {-1, -2, 10000, 10001, MOST, LEAST};
        ThrownCoins x = told("coins 1 2 3 4 5 6");
        for (int w : wrong) {
            due("note(0, " + w + ")", x.note(0, w), OUTSIDE);
            due("note(5, " + w + ")", x.note(5, w), OUTSIDE);
            due("note(6, " + w + ")", x.note(6, w), UNKNOWN);
        }
        due("kind -1", x.note(-1, 0), UNKNOWN);
        due("kind 6", x.note(6, 0), UNKNOWN);
        due("kind far off", x.note(MOST, 0), UNKNOWN);
        due("none was noted", x.count(5), 0);
        due("kind 5", x.note(5, 0), 1);
        due("kind 0", x.note(0, 0), 2);
        // By a kind 2 that takes all there may be of its own and below; of kind 3 any number may lie there.
        ThrownCoins dear = told("coins 996 997 998 999;law 1");
        due("three of three kinds", dear.note(2, 3 * 996 + 3 * 997 + 3 * 998), 1);
        due("one may lie there", dear.lay(0), 4);
        due("the first", dear.lay(1), 3 * 64 + 3 * 16 + 3 * 4);
    }

    private static void forgotten() {
        sentence("forget: NOTES are none: how many there were");
        ThrownCoins x = told("coins 1 2");
        due("none", x.forget(), 0);
        for (int n = 1; n <= 6; n++) {
            for (int i = 0; i < n; i++) {
                due("note", x.note(1, 3), i + 1);
            }
            due("forget " + n, x.forget(), n);
            due("none", x.count(5), 0);
            due("none", x.forget(), 0);
            due("all may have lain there", x.lay(0), 16);
        }
    }

    private static void layOfKinds() {
        sentence("LAY (4 KINDS at most): 0 .. 3 of each KIND; figures of 4, KIND 0's the highest");
        String line = "coins";
        int all = 1;
        for (int c = 1; c <= 4; c++) {
            line += " " + (c + 6);
            all *= 4;
            ThrownCoins x = told(line);
            due("all of " + c, x.lay(0), all);
            due("the first of " + c, x.lay(1), 0);
            for (int kind = 0; kind < c; kind++) {
                due("the least of " + kind, x.lay(10 + kind), 0);
                due("the most of " + kind, x.lay(20 + kind), 3);
            }
            due("no kind " + c, x.lay(10 + c), OUTSIDE);
            due("no kind " + c, x.lay(20 + c), OUTSIDE);
        }
        ThrownCoins five = told(line + " 11");
        int[] not = {0, 1, 10, 14, 20, 24};
        for (int what : not) {
            due("five kinds, lay(" + what + ")", five.lay(what), NOT);
        }
        int[] outside = {-1, 2, 9, 15, 19, 25, 30};
        for (int what : outside) {
            due("five kinds, lay(" + what + ")", five.lay(what), OUTSIDE);
        }
        tell(five, "coins 1 2 3 4 5 6");
        due("six kinds", five.lay(0), NOT);
        due("six kinds", five.lay(15), NOT);
        due("six kinds", five.lay(16), OUTSIDE);
        // Three ones may lie there, and no fourth.
        ThrownCoins x = told("coins 1 5");
        for (int w = 0; w <= 4; w++) {
            due("note", x.note(1, w), 1);
            due(w + " ones", x.lay(0), w <= 3 ? 4 : 0);
            due("the first with " + w + " ones", x.lay(1), w <= 3 ? 4 * w : NONE);
            due("the least with " + w + " ones", x.lay(10), w <= 3 ? w : NONE);
            due("the most with " + w + " ones", x.lay(20), w <= 3 ? w : NONE);
            due("the least of fives", x.lay(11), w <= 3 ? 0 : NONE);
            due("the most of fives", x.lay(21), w <= 3 ? 3 : NONE);
            due("forget", x.forget(), 1);
        }
        // One of each kind alone: 64, 16 and 4.
        ThrownCoins four = told("coins 1 10 100 900");
        due("note", four.note(3, 1), 1);
        due("a one", four.lay(1), 64);
        due("forget", four.forget(), 1);
        due("note", four.note(3, 10), 1);
        due("a ten", four.lay(1), 16);
        due("forget", four.forget(), 1);
        due("note", four.note(3, 100), 1);
        due("a hundred", four.lay(1), 4);
        tell(four, "law 1");
        due("note", four.note(3, 900), 1);
        due("a nine hundred", four.lay(1), 1);
    }

    private static void layAsked() {
        sentence("lay: OUTSIDE: what (KINDS there are)");
        ThrownCoins x = told("coins 1 2");
        due("note", x.note(1, 2), 1);
        int[][] asked = {
            {LEAST, OUTSIDE}, {-11, OUTSIDE}, {-10, OUTSIDE}, {-1, OUTSIDE}, {0, 4}, {1, 8}, {2, OUTSIDE}, {9, OUTSIDE},
            {10, 2}, {11, 0}, {12, OUTSIDE}, {13, OUTSIDE}, {19, OUTSIDE}, {20, 2}, {21, 3}, {22, OUTSIDE}, {29, OUTSIDE},
            {30, OUTSIDE}, {31, OUTSIDE}, {100, OUTSIDE}, {MOST, OUTSIDE},
        };
        for (int[] one : asked) {
            due("lay(" + one[0] + ")", x.lay(one[0]), one[1]);
        }
    }

    private static void lay(int law, int kind, int w, int... due) {
        ThrownCoins x = told("coins 1 2 4;law " + law);
        due("note", x.note(kind, w), 1);
        int[] asked = {0, 1, 10, 20, 11, 21, 12, 22};
        for (int i = 0; i < due.length; i++) {
            due("lay(" + asked[i] + ") by law " + law + " behind note(" + kind + ", " + w + ")", x.lay(asked[i]), due[i]);
        }
    }

    private static void layByLaw() {
        sentence("LAY: so that all NOTES are so, by LAW");
        lay(0, 0, 0, 64, 0, 0, 3, 0, 3, 0, 3);
        lay(0, 0, 1, 0, NONE, NONE, NONE, NONE, NONE, NONE, NONE);
        lay(0, 1, 3, 16, 48, 3, 3, 0, 3, 0, 3);
        lay(0, 2, 9, 4, 60, 3, 3, 3, 3, 0, 3);
        lay(0, 2, 10, 0, NONE, NONE, NONE, NONE, NONE, NONE, NONE);
        lay(0, 2, 5, 8, 16 + 8, 1, 3, 1, 2, 0, 3);
        lay(1, 0, 3, 16, 48, 3, 3, 0, 3, 0, 3);
        lay(1, 0, 4, 0, NONE);
        lay(1, 1, 9, 4, 60, 3, 3, 3, 3, 0, 3);
        lay(1, 2, 21, 1, 63, 3, 3, 3, 3, 3, 3);
        lay(1, 2, 22, 0, NONE);
        lay(1, 2, 0, 1, 0, 0, 0, 0, 0, 0, 0);
        lay(2, 2, 2, 48, 4, 0, 3, 1, 3, 0, 3);
        lay(2, 2, 1, 12, 16, 1, 3, 0, 0, 0, 3);
        lay(2, 2, 0, 4, 0, 0, 0, 0, 0, 0, 3);
        lay(2, 2, 3, 0, NONE);
        lay(2, 0, 1, 0, NONE);
        lay(3, 2, 6, 16, 12, 0, 3, 3, 3, 0, 3);
        lay(3, 2, 2, 16 + 4, 4, 0, 3, 0, 1, 0, 3);
        lay(3, 2, 3, 4, 48, 3, 3, 0, 0, 0, 3);
        lay(3, 2, 5, 0, NONE);
    }

    private static void layOfSeveralNotes() {
        sentence("NOTES: one after another; what may have lain there ahead of all");
        ThrownCoins x = told("coins 1 2 4");
        due("a two took two ones", x.note(1, 2), 1);
        due("then a four took that two and no more", x.note(2, 2), 2);
        due("no twos had lain there", x.lay(21), 0);
        due("two ones had", x.lay(10), 2);
        due("the fours are not told of", x.lay(0), 4);
        due("a one takes nothing", x.note(0, 0), 3);
        due("then a two took that one", x.note(1, 1), 4);
        due("all the same", x.lay(0), 4);
        due("then a four took that two, too", x.note(2, 2), 5);
        due("all the same", x.lay(1), 32);
        due("a sixth that cannot be", x.note(2, 1), 6);
        due("none", x.lay(0), 0);
        due("forget", x.forget(), 6);
        due("three ones and three more thrown", x.note(0, 0) + x.note(0, 0) + x.note(0, 0), 6);
        due("six for a two", x.note(1, 6), 4);
        due("three had lain there", x.lay(1), 48);
        sentence("NOTES are none behind a text; VISITS, keep and back leave them");
        tell(x, "lies 0 9;purse 0 1 1;come 0");
        due("none", x.count(5), 0);
        due("all may have lain there", x.lay(0), 64);
        due("note", x.note(1, 2), 1);
        due("keep", x.keep(0), 0);
        due("visit", x.visit(1), WITHOUT + 7);
        due("note", x.note(1, 0), 2);
        due("back", x.back(0), 0);
        due("two notes", x.count(5), 2);
        due("as noted, whatever lies there", x.lay(20), 2);
    }

    private static void noneLay() {
        sentence("lay: the first (NONE), the least, the most (NONE each, if there are none)");
        ThrownCoins x = told("coins 1 2 4 8");
        due("a note that cannot be", x.note(0, 9999), 1);
        due("how many", x.lay(0), 0);
        due("the first", x.lay(1), NONE);
        for (int kind = 0; kind < 4; kind++) {
            due("the least", x.lay(10 + kind), NONE);
            due("the most", x.lay(20 + kind), NONE);
        }
        due("forget", x.forget(), 1);
        due("how many", x.lay(0), 256);
        due("the least", x.lay(13), 0);
        due("the most", x.lay(23), 3);
    }

    private static final String HOUSE = "coins 1 5;lies 0 9;lies 1 2;purse 0 1 3;greedy 0;come 0 1 0";

    private static void kept() {
        sentence("keep: What lies there, PURSES, VISITS that have gone are kept (k 0, 1); back: It is as it was kept");
        ThrownCoins x = told(HOUSE);
        due("keep(0)", x.keep(0), 0);
        due("visit", x.visit(1), WITHOUT + 4);
        due("keep(1)", x.keep(1), 1);
        due("go", x.go(24), 3);
        for (int again = 0; again < 2; again++) {
            due("back(0)", x.back(0), 0);
            due("ones", x.coin(0, 1), 9);
            due("fives", x.coin(1, 1), 2);
            due("had", x.person(0, 0), 15);
            due("gone", x.count(4), 0);
            due("left", x.person(0, 3), 2);
            due("back(1)", x.back(1), 1);
            due("ones", x.coin(0, 1), 0);
            due("fives", x.coin(1, 1), 3);
            due("had", x.person(0, 0), 19);
            due("gone", x.count(4), 1);
            due("left", x.person(0, 3), 1);
        }
        due("visits go on from there", x.visit(NONE), WITHOUT);
        due("keep over the older", x.keep(0), 2);
        due("visit", x.visit(1), 99995);
        due("keep behind the last", x.keep(1), 3);
        due("back(0)", x.back(0), 2);
        due("fives", x.coin(1, 1), 3);
        due("back(1)", x.back(1), 3);
        due("fives", x.coin(1, 1), 4);
        due("none is left", x.visit(NONE), NOT);
        writeText(x, "law 1");
        due("the text is not kept", x.back(0), 2);
        due("the text stands", x.count(6), 5);
        due("law stands", x.count(2), 0);
        sentence("keep: UNKNOWN: no such k");
        int[] unknown = {-1, 2, 3, LEAST, MOST};
        for (int k : unknown) {
            due("keep(" + k + ")", x.keep(k), UNKNOWN);
            due("back(" + k + ")", x.back(k), UNKNOWN);
        }
    }

    private static void foretoldBehindBack() {
        sentence("back: It is as it was kept: FORETOLD from there, too");
        ThrownCoins x = told(HOUSE);
        due("keep(0)", x.keep(0), 0);
        due("plan", x.plan(0, NONE), 19);
        due("choice", x.choice(2), 2);
        due("visit", x.visit(1), WITHOUT + 4);
        due("plan", x.plan(0, 1), NONE);
        due("choice", x.choice(2), NONE);
        due("league", x.league(0, 1), 19);
        due("back(0)", x.back(0), 0);
        due("league", x.league(0, 1), 19);
        due("two visits again", x.plan(0, 1), 2);
        due("back(0)", x.back(0), 0);
        due("three visits again", x.choice(2), 2);
        due("go", x.go(24), 3);
        due("none is left", x.choice(0), NONE);
        due("back(0)", x.back(0), 0);
        due("three visits again", x.choice(0), 0);
        due("as at first", x.game(0), 19);
        due("as at first", x.dry(), 4);
    }

    private static void notKept() {
        sentence("back: NOT: nothing was kept since the last text");
        ThrownCoins x = new ThrownCoins();
        due("back(0)", x.back(0), NOT);
        due("back(1)", x.back(1), NOT);
        due("unknown comes first", x.back(2), UNKNOWN);
        due("keep(1)", x.keep(1), 0);
        due("the other", x.back(0), NOT);
        due("back(1)", x.back(1), 0);
        due("keep(0)", x.keep(0), 0);
        due("back(0)", x.back(0), 0);
        writeText(x, "law 4");
        due("a text that is refused", x.sunday(), NOT);
        due("back(0)", x.back(0), 0);
        due("back(1)", x.back(1), 0);
        due("erase", x.erase(), 5);
        due("back(0)", x.back(0), 0);
        tell(x, "law 3");
        due("back(0)", x.back(0), NOT);
        due("back(1)", x.back(1), NOT);
        due("keep(0)", x.keep(0), 0);
        due("back(0)", x.back(0), 0);
        due("the other", x.back(1), NOT);
    }

    private static void counts() {
        sentence("count: 0 KINDS, 1 WORTH of all that lies there, 2 LAW, 3 VISITS, 4 gone, 5 NOTES, 6 bytes, 7 WORTH of all");
        ThrownCoins x = told("coins 2 3 5;lies 0 1;lies 2 4;purse 0 0 1;purse 1 1 1;purse 2 2 1;purse 3 0 5;law 3;come 1 2 3;come 0");
        due("go", x.go(2), 2);
        due("note", x.note(0, 0), 1);
        writeText(x, "alone");
        int[] due = {3, 22, 3, 4, 2, 1, 5, 22 + 2 + 3 + 5 + 10};
        for (int what = 0; what < due.length; what++) {
            due("count(" + what + ")", x.count(what), due[what]);
        }
        int[] outside = {-1, -2, 8, 9, LEAST, MOST};
        for (int what : outside) {
            due("count(" + what + ")", x.count(what), OUTSIDE);
        }
    }

    private static void coinsAndPurses() {
        sentence("coin: Of a KIND: WORTH (what 0), how many lie there (1). UNKNOWN; OUTSIDE");
        ThrownCoins x = told("coins 3 999;lies 0 20;lies 1 1;purse 0 0 20;purse 3 1 19");
        int[][] coins = {
            {-1, 0, UNKNOWN}, {0, 0, 3}, {1, 0, 999}, {2, 0, UNKNOWN}, {0, 1, 20}, {1, 1, 1}, {2, 1, UNKNOWN}, {-1, 1, UNKNOWN},
            {0, -1, OUTSIDE}, {0, 2, OUTSIDE}, {1, -1, OUTSIDE}, {1, 2, OUTSIDE}, {2, 2, UNKNOWN}, {-1, -1, UNKNOWN},
            {MOST, 0, UNKNOWN}, {LEAST, 0, UNKNOWN}, {0, MOST, OUTSIDE}, {0, LEAST, OUTSIDE},
        };
        for (int[] one : coins) {
            due("coin(" + one[0] + ", " + one[1] + ")", x.coin(one[0], one[1]), one[2]);
        }
        sentence("purse: How many of a KIND one of PEOPLE has. UNKNOWN");
        int[][] purses = {
            {0, 0, 20}, {0, 1, 0}, {3, 0, 0}, {3, 1, 19}, {-1, 0, UNKNOWN}, {4, 0, UNKNOWN}, {0, -1, UNKNOWN}, {0, 2, UNKNOWN},
            {3, 2, UNKNOWN}, {4, 2, UNKNOWN}, {MOST, 0, UNKNOWN}, {LEAST, 0, UNKNOWN}, {0, MOST, UNKNOWN}, {0, LEAST, UNKNOWN},
        };
        for (int[] one : purses) {
            due("purse(" + one[0] + ", " + one[1] + ")", x.purse(one[0], one[1]), one[2]);
        }
        sentence("person: UNKNOWN; OUTSIDE");
        int[][] people = {
            {0, 0, 60}, {3, 0, 19 * 999}, {-1, 0, UNKNOWN}, {4, 0, UNKNOWN}, {4, 4, UNKNOWN}, {0, -1, OUTSIDE}, {3, 4, OUTSIDE},
            {MOST, 0, UNKNOWN}, {LEAST, 0, UNKNOWN}, {0, MOST, OUTSIDE}, {0, LEAST, OUTSIDE},
        };
        for (int[] one : people) {
            due("person(" + one[0] + ", " + one[1] + ")", x.person(one[0], one[1]), one[2]);
        }
    }

    private static void lastCalls() {
        sentence("An object is used for at most 512 calls");
        ThrownCoins x = new ThrownCoins();
        for (int i = 1; i < 500; i++) {
            due("note", x.note(0, 0), i <= 6 ? i : FULL);
        }
        writeText(x, "coins 1 5;lies 0 9;purse 0 1 1;come 0");
        due("the 505th", x.sunday(), 4);
        due("the 506th", x.count(5), 0);
        due("the 507th", x.plan(0, NONE), 9);
        due("the 508th", x.keep(1), 0);
        due("the 509th", x.visit(1), WITHOUT + 4);
        due("the 510th", x.lay(0), 16);
        due("the 511th", x.back(1), 0);
        due("the 512th", x.game(0), 9);
    }
}
