import java.util.function.Supplier;

/** Refused calls, in the order of what refuses them, and questions: behind each all is as in a twin that was not asked. */
public final class RefusedTest extends Asking {
    private static final int[] NO_PERSON = {-1, 4, 5, LEAST, MOST};
    private static final int[] FAR_BELOW = {-1, -2, LEAST};

    public static void main(String[] args) {
        write();
        sunday();
        coinPursePerson();
        as();
        come();
        gain();
        visit();
        go();
        plan();
        game();
        choice();
        league();
        mean();
        bait();
        note();
        lay();
        keepAndBack();
        count();
        questions();
        undone();
        end("what is refused changes nothing");
    }

    /** Four kinds, each habit, a visit gone, both kept, two notes and a text that is right: four visits are left. */
    private static ThrownCoins busy() {
        ThrownCoins x = withoutText();
        writeText(x, "law 3;come 1 1");
        return x;
    }

    private static ThrownCoins withoutText() {
        ThrownCoins x = withoutNotes();
        x.note(1, 9);
        x.note(0, 0);
        return x;
    }

    private static ThrownCoins withoutNotes() {
        ThrownCoins x = told("coins 1 5 12 60;lies 0 9;lies 1 3;purse 0 1 2;purse 1 2 1;purse 1 3 1;purse 2 0 4;greedy 0",
                "waiting 1 20;cheap 2;purse 2 2 1;come 0 1 2 0 1 2 3");
        x.go(1);
        x.keep(0);
        x.visit(NONE);
        x.keep(1);
        x.go(1);
        return x;
    }

    /** Six kinds, 24 visits of 0 and 1, six notes and 200 bytes with a fault in them; one kept. */
    private static ThrownCoins full() {
        ThrownCoins x = told("coins 1 2 3 4 5 6;lies 0 20;lies 4 2;purse 0 5 3;purse 1 5 3;greedy 0;cheap 1",
                "come 0 1 0 1 0 1 0 1;come 0 1 0 1 0 1 0 1;come 0 1 0 1 0 1 0 1");
        x.keep(0);
        x.go(2);
        for (int i = 0; i < 6; i++) {
            x.note(i, i);
        }
        writeText(x, "law 4" + " ".repeat(195));
        return x;
    }

    /** All visits have gone, nothing is kept. */
    private static ThrownCoins gone() {
        ThrownCoins x = told("coins 1 5;lies 0 9;purse 0 1 2;purse 3 0 1;greedy 0;come 0 3 0");
        x.go(3);
        return x;
    }

    private static void refused(String call, Supplier<ThrownCoins> house, int want, Call asked) {
        leavesAll(call, house, want, asked);
    }

    private static void refusedByAll(String call, int want, Call asked) {
        refused(call + " of a new one", ThrownCoins::new, want, asked);
        refused(call + " of a busy one", RefusedTest::busy, want, asked);
        refused(call + " of a full one", RefusedTest::full, want, asked);
        refused(call + " where all have gone", RefusedTest::gone, want, asked);
    }

    private static void write() {
        sentence("write: n (1 .. 8). OUTSIDE; FULL");
        int[] outside = {0, 9, 10, -1, -8, LEAST, MOST};
        for (int n : outside) {
            refusedByAll("write(-1, " + n + ")", OUTSIDE, x -> x.write(-1, n));
        }
        for (int n = 1; n <= 8; n++) {
            int bytes = n;
            refused("write(0, " + n + ")", RefusedTest::full, FULL, x -> x.write(0, bytes));
            refused("write(-1, " + n + ") one too many", () -> withBytes(201 - bytes), FULL, x -> x.write(-1, bytes));
            due("write(-1, " + n + ") just so many", withBytes(200 - n).write(-1, n), 200);
        }
    }

    private static ThrownCoins withBytes(int n) {
        ThrownCoins x = new ThrownCoins();
        writeText(x, "coins 7" + " ".repeat(n - 7));
        return x;
    }

    private static void sunday() {
        sentence("sunday: NOT: it has a FAULT");
        refused("sunday() without a text", ThrownCoins::new, NOT, ThrownCoins::sunday);
        refused("sunday() without a text", RefusedTest::gone, NOT, ThrownCoins::sunday);
        refused("sunday() of a fault", RefusedTest::full, NOT, ThrownCoins::sunday);
        String[] faults = {
            "x", "coins 3 4;lies 1 2;law 3;never 0;alone;lies 2 1", "alone;", "law 3;come 1;purse 2 0 5;", "come 1 2 3;come",
            "coins 2 3 4 5 6 7 8", "greedy 3;waiting 2 100", "lies 0 20;purse 0 0 20;lies 0 21",
        };
        for (String text : faults) {
            refused("sunday() of " + text, () -> busyWith(text), NOT, ThrownCoins::sunday);
            leavesAll("fault() of " + text, () -> busyWith(text), busyWith(text).fault(), ThrownCoins::fault);
        }
        leavesAll("fault() of a right one", RefusedTest::busy, NONE, ThrownCoins::fault);
    }

    private static ThrownCoins busyWith(String text) {
        ThrownCoins x = busy();
        x.erase();
        writeText(x, text);
        return x;
    }

    private static void coinPursePerson() {
        sentence("coin, purse, person: UNKNOWN; OUTSIDE");
        int[] noKind = {-1, 4, 6, LEAST, MOST};
        int[] noWhat = {-1, 2, 3, LEAST, MOST};
        for (int kind : noKind) {
            refused("coin(" + kind + ", 0)", RefusedTest::busy, UNKNOWN, x -> x.coin(kind, 0));
            refused("coin(" + kind + ", 2)", RefusedTest::busy, UNKNOWN, x -> x.coin(kind, 2));
            refused("purse(0, " + kind + ")", RefusedTest::busy, UNKNOWN, x -> x.purse(0, kind));
        }
        for (int what : noWhat) {
            refused("coin(3, " + what + ")", RefusedTest::busy, OUTSIDE, x -> x.coin(3, what));
        }
        for (int person : NO_PERSON) {
            refusedByAll("purse(" + person + ", 0)", UNKNOWN, x -> x.purse(person, 0));
            refusedByAll("person(" + person + ", 0)", UNKNOWN, x -> x.person(person, 0));
            refusedByAll("person(" + person + ", 4)", UNKNOWN, x -> x.person(person, 4));
        }
        refusedByAll("person(0, -1)", OUTSIDE, x -> x.person(0, -1));
        refusedByAll("person(3, 4)", OUTSIDE, x -> x.person(3, 4));
    }

    private static void as() {
        sentence("as: UNKNOWN; OUTSIDE; NOT: he is none such");
        for (int person : NO_PERSON) {
            refusedByAll("as(" + person + ", 0)", UNKNOWN, x -> x.as(person, 0));
            refusedByAll("as(" + person + ", 6)", UNKNOWN, x -> x.as(person, 6));
        }
        int[] noHabit = {-1, 6, 7, LEAST, MOST};
        for (int habit : noHabit) {
            refusedByAll("as(0, " + habit + ")", OUTSIDE, x -> x.as(0, habit));
        }
        int[][] not = {{0, 1}, {0, 4}, {0, 5}, {1, 1}, {1, 5}, {2, 1}, {2, 3}, {2, 4}, {3, 2}, {3, 3}, {3, 4}, {3, 5}};
        for (int[] one : not) {
            refused("as(" + one[0] + ", " + one[1] + ")", RefusedTest::busy, NOT, x -> x.as(one[0], one[1]));
        }
    }

    private static void come() {
        sentence("come: OUTSIDE: t below 0");
        for (int t : FAR_BELOW) {
            refusedByAll("come(" + t + ")", OUTSIDE, x -> x.come(t));
        }
        leavesAll("come(7)", RefusedTest::busy, NONE, x -> x.come(7));
        leavesAll("come(6)", RefusedTest::busy, 3, x -> x.come(6));
        leavesAll("come(24)", RefusedTest::full, NONE, x -> x.come(24));
        leavesAll("come(23)", RefusedTest::full, 1, x -> x.come(23));
    }

    private static void gain() {
        sentence("gain: UNKNOWN; NOT");
        for (int person : NO_PERSON) {
            refusedByAll("gain(" + person + ", 0)", UNKNOWN, x -> x.gain(person, 0));
        }
        int[] noKind = {-1, 6, LEAST, MOST};
        for (int kind : noKind) {
            refusedByAll("gain(2, " + kind + ")", UNKNOWN, x -> x.gain(2, kind));
        }
        refused("gain(3, 4)", RefusedTest::busy, UNKNOWN, x -> x.gain(3, 4));
        refused("gain(3, 3)", RefusedTest::busy, NOT, x -> x.gain(3, 3));
        refused("gain(0, 2)", RefusedTest::busy, NOT, x -> x.gain(0, 2));
        refused("gain(0, 0)", ThrownCoins::new, NOT, x -> x.gain(0, 0));
    }

    private static void visit() {
        sentence("visit: UNKNOWN: KIND; NOT: there is no VISIT left; he has no such COIN");
        int[] noKind = {-2, -3, 6, 7, LEAST, MOST};
        for (int kind : noKind) {
            refusedByAll("visit(" + kind + ")", UNKNOWN, x -> x.visit(kind));
        }
        refused("visit(4)", RefusedTest::busy, UNKNOWN, x -> x.visit(4));
        refused("visit(3), he has none", RefusedTest::busy, NOT, x -> x.visit(3));
        refused("visit(2), another has one", RefusedTest::busy, NOT, x -> x.visit(2));
        refused("visit(1)", ThrownCoins::new, UNKNOWN, x -> x.visit(1));
        refused("visit(0)", ThrownCoins::new, NOT, x -> x.visit(0));
        refused("visit(-1)", ThrownCoins::new, NOT, x -> x.visit(NONE));
        refused("visit(2)", RefusedTest::gone, UNKNOWN, x -> x.visit(2));
        refused("visit(0)", RefusedTest::gone, NOT, x -> x.visit(0));
        refused("visit(1)", RefusedTest::gone, NOT, x -> x.visit(1));
        refused("visit(-1)", RefusedTest::gone, NOT, x -> x.visit(NONE));
    }

    private static void go() {
        sentence("go: n (1 .. 24). OUTSIDE");
        int[] outside = {0, -1, 25, 26, LEAST, MOST};
        for (int n : outside) {
            refusedByAll("go(" + n + ")", OUTSIDE, x -> x.go(n));
        }
        leavesAll("go(1), none is left", RefusedTest::gone, 3, x -> x.go(1));
        leavesAll("go(24), none is left", RefusedTest::gone, 3, x -> x.go(24));
        leavesAll("go(24), nobody comes", ThrownCoins::new, 0, x -> x.go(24));
    }

    private static void plan() {
        sentence("plan: UNKNOWN; OUTSIDE: i below NONE; NOT: more than 5");
        for (int person : NO_PERSON) {
            refusedByAll("plan(" + person + ", -1)", UNKNOWN, x -> x.plan(person, NONE));
            refusedByAll("plan(" + person + ", -2)", UNKNOWN, x -> x.plan(person, -2));
        }
        int[] outside = {-2, -3, LEAST};
        for (int i : outside) {
            refusedByAll("plan(0, " + i + ")", OUTSIDE, x -> x.plan(0, i));
        }
        for (int i = -1; i <= 11; i++) {
            int asked = i;
            refused("plan(0, " + i + ")", RefusedTest::full, NOT, x -> x.plan(0, asked));
        }
        leavesAll("plan(2, -1)", RefusedTest::full, 0, x -> x.plan(2, NONE));
        leavesAll("plan(2, 0)", RefusedTest::full, NONE, x -> x.plan(2, 0));
        leavesAll("plan(0, 1)", RefusedTest::busy, NONE, x -> x.plan(0, 1));
    }

    private static void game() {
        sentence("game: UNKNOWN; NOT: more than 6 VISITS are left");
        for (int person : NO_PERSON) {
            refusedByAll("game(" + person + ")", UNKNOWN, x -> x.game(person));
        }
        for (int person = 0; person < 4; person++) {
            int asked = person;
            refused("game(" + person + ")", RefusedTest::full, NOT, x -> x.game(asked));
        }
        leavesAll("game(3)", RefusedTest::busy, 0, x -> x.game(3));
    }

    private static void choice() {
        sentence("choice: OUTSIDE: i below 0; NOT");
        for (int i : FAR_BELOW) {
            refusedByAll("choice(" + i + ")", OUTSIDE, x -> x.choice(i));
        }
        int[] far = {0, 5, 6, 22, MOST};
        for (int i : far) {
            refused("choice(" + i + ")", RefusedTest::full, NOT, x -> x.choice(i));
        }
        leavesAll("choice(4)", RefusedTest::busy, NONE, x -> x.choice(4));
        leavesAll("choice(0)", RefusedTest::gone, NONE, x -> x.choice(0));
    }

    private static void league() {
        sentence("league: UNKNOWN; OUTSIDE: one and itself; NOT: more than 5");
        for (int person : NO_PERSON) {
            refusedByAll("league(" + person + ", 0)", UNKNOWN, x -> x.league(person, 0));
            refusedByAll("league(0, " + person + ")", UNKNOWN, x -> x.league(0, person));
            refusedByAll("league(" + person + ", itself)", UNKNOWN, x -> x.league(person, person));
        }
        for (int person = 0; person < 4; person++) {
            int asked = person;
            refusedByAll("league(" + person + ", itself)", OUTSIDE, x -> x.league(asked, asked));
        }
        refused("league(0, 1)", RefusedTest::full, NOT, x -> x.league(0, 1));
        refused("league(1, 0)", RefusedTest::full, NOT, x -> x.league(1, 0));
        refused("league(0, 3)", RefusedTest::full, NOT, x -> x.league(0, 3));
        refused("league(2, 1)", RefusedTest::full, NOT, x -> x.league(2, 1));
        leavesAll("league(2, 3)", RefusedTest::full, 0, x -> x.league(2, 3));
    }

    private static void mean() {
        sentence("mean: UNKNOWN; OUTSIDE; NOT: more than 10 VISITS are left");
        for (int person : NO_PERSON) {
            refusedByAll("mean(" + person + ", 5, 0)", UNKNOWN, x -> x.mean(person, 5, 0));
            refusedByAll("mean(" + person + ", 11, 2)", UNKNOWN, x -> x.mean(person, 11, 2));
        }
        int[] noTenths = {-1, 11, LEAST, MOST};
        int[] noPart = {-1, 2, LEAST, MOST};
        for (int p : noTenths) {
            refusedByAll("mean(0, " + p + ", 0)", OUTSIDE, x -> x.mean(0, p, 0));
        }
        for (int part : noPart) {
            refusedByAll("mean(0, 5, " + part + ")", OUTSIDE, x -> x.mean(0, 5, part));
        }
        refused("mean(0, 0, 0)", RefusedTest::full, NOT, x -> x.mean(0, 0, 0));
        refused("mean(3, 10, 1)", RefusedTest::full, NOT, x -> x.mean(3, 10, 1));
    }

    private static void bait() {
        sentence("bait: UNKNOWN");
        for (int person : NO_PERSON) {
            refusedByAll("bait(" + person + ")", UNKNOWN, x -> x.bait(person));
        }
    }

    private static void note() {
        sentence("note: UNKNOWN: KIND; OUTSIDE: w; FULL");
        int[] noKind = {-1, 6, LEAST, MOST};
        for (int kind : noKind) {
            refusedByAll("note(" + kind + ", 0)", UNKNOWN, x -> x.note(kind, 0));
            refusedByAll("note(" + kind + ", -1)", UNKNOWN, x -> x.note(kind, -1));
        }
        int[] noWorth = {-1, 10000, LEAST, MOST};
        for (int w : noWorth) {
            refusedByAll("note(0, " + w + ")", OUTSIDE, x -> x.note(0, w));
        }
        refused("note(4, 0)", RefusedTest::busy, UNKNOWN, x -> x.note(4, 0));
        refused("note(0, 0)", RefusedTest::full, FULL, x -> x.note(0, 0));
        refused("note(5, 9999)", RefusedTest::full, FULL, x -> x.note(5, 9999));
    }

    private static void lay() {
        sentence("lay: OUTSIDE: what (KINDS there are); NOT: more than 4 KINDS");
        int[] outside = {-1, 2, 9, 16, 19, 26, 30, LEAST, MOST};
        for (int what : outside) {
            refusedByAll("lay(" + what + ")", OUTSIDE, x -> x.lay(what));
        }
        refused("lay(14)", RefusedTest::busy, OUTSIDE, x -> x.lay(14));
        refused("lay(24)", RefusedTest::busy, OUTSIDE, x -> x.lay(24));
        int[] not = {0, 1, 10, 15, 20, 25};
        for (int what : not) {
            refused("lay(" + what + ")", RefusedTest::full, NOT, x -> x.lay(what));
        }
    }

    private static void keepAndBack() {
        sentence("keep: UNKNOWN: no such k; back: UNKNOWN; NOT: nothing was kept since the last text");
        int[] unknown = {-1, 2, 3, LEAST, MOST};
        for (int k : unknown) {
            refusedByAll("keep(" + k + ")", UNKNOWN, x -> x.keep(k));
            refusedByAll("back(" + k + ")", UNKNOWN, x -> x.back(k));
        }
        for (int k = 0; k < 2; k++) {
            int asked = k;
            refused("back(" + k + ")", ThrownCoins::new, NOT, x -> x.back(asked));
            refused("back(" + k + ")", RefusedTest::gone, NOT, x -> x.back(asked));
        }
        refused("back(1), 0 is kept", RefusedTest::full, NOT, x -> x.back(1));
    }

    private static void count() {
        sentence("count: OUTSIDE");
        int[] outside = {-1, 8, 9, LEAST, MOST};
        for (int what : outside) {
            refusedByAll("count(" + what + ")", OUTSIDE, x -> x.count(what));
        }
    }

    /** What they answer is held against the document elsewhere. */
    private static void questions() {
        sentence("FORETOLD from now (nothing changes)");
        Call[] questions = {
            x -> x.as(0, 0), x -> x.gain(0, 1), x -> x.plan(0, NONE), x -> x.plan(1, 0), x -> x.plan(2, 0), x -> x.game(0),
            x -> x.choice(0), x -> x.league(0, 1), x -> x.league(1, 2), x -> x.mean(0, 5, 0), x -> x.mean(2, 3, 1),
            x -> x.dry(), x -> x.bait(0), x -> x.bait(1), x -> x.bait(2), x -> x.lay(0), x -> x.lay(1), x -> x.lay(10),
            x -> x.lay(21), x -> x.fault(), x -> x.come(0), x -> x.person(1, 0), x -> x.coin(0, 1), x -> x.count(7),
        };
        for (int i = 0; i < questions.length; i++) {
            leavesAll("question " + i, RefusedTest::busy, questions[i].on(busy()), questions[i]);
            leavesAll("question " + i, RefusedTest::full, questions[i].on(full()), questions[i]);
            leavesAll("question " + i, RefusedTest::gone, questions[i].on(gone()), questions[i]);
        }
    }

    private static ThrownCoins keptAsItIs() {
        ThrownCoins x = withoutText();
        x.keep(0);
        x.keep(1);
        writeText(x, "alone;law");
        return x;
    }

    /** Calls that are undone by another, or do what was done: nothing else comes of them. */
    private static void undone() {
        sentence("erase: THE TEXT is empty");
        leavesAll("erase() without a text", RefusedTest::withoutText, 0, ThrownCoins::erase);
        leavesAll("write and erase", RefusedTest::withoutText, 8, x -> x.write(-1, 8) == 8 ? x.erase() : NONE);
        sentence("forget: NOTES are none");
        leavesAll("forget() without notes", RefusedTest::withoutNotes, 0, ThrownCoins::forget);
        leavesAll("note and forget", RefusedTest::withoutNotes, 1, x -> x.note(3, 9999) == 1 ? x.forget() : NONE);
        sentence("keep, back: What lies there, PURSES, VISITS that have gone");
        for (int k = 0; k < 2; k++) {
            int asked = k;
            leavesAll("keep(" + k + ") again", RefusedTest::keptAsItIs, 3, x -> x.keep(asked));
            leavesAll("back(" + k + ") at once", RefusedTest::keptAsItIs, 3, x -> x.back(asked));
            leavesAll("back(" + k + ") behind a visit", RefusedTest::keptAsItIs, 3, x -> x.visit(1) > 0 ? x.back(asked) : NONE);
            leavesAll("back(" + k + ") behind all", RefusedTest::keptAsItIs, 3, x -> x.go(24) == 7 ? x.back(asked) : NONE);
        }
    }
}
