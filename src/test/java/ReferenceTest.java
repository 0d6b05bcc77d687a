import java.math.BigInteger;
import java.nio.charset.StandardCharsets;
import java.util.ArrayList;
import java.util.List;
import java.util.regex.Matcher;
import java.util.regex.Pattern;

/** Long runs of mixed calls, each answer held against a second, plainly written reading of the document. */
public final class ReferenceTest {
    private static final int RUNS = 1500, CALLS = 500;
    private static long seed;
    private static int wrong;

    public static void main(String[] args) {
        for (int run = 1; run <= RUNS && wrong < 20; run++) {
            seed = run * 7919L;
            play(run);
        }
        System.out.println(wrong == 0 ? "both readings agree" : wrong + " answers are not as due");
        if (wrong != 0) {
            System.exit(1);
        }
    }

    private static int any(int from, int to) {
        seed = seed * 6364136223846793005L + 1442695040888963407L;
        return from + (int) Long.remainderUnsigned(seed >>> 33, to - from + 1L);
    }

    private static void play(int run) {
        ThrownCoins coins = new ThrownCoins();
        Reference reference = new Reference();
        List<String> told = new ArrayList<>();
        for (int call = 0; call < CALLS; ) {
            if (told.isEmpty() || any(1, 60) == 1) {
                for (String text : fullHouse()) {
                    call += tell(run, coins, reference, told, text);
                }
            }
            if (any(1, 30) == 1) {
                String text = someText(reference.count(0));
                call += tell(run, coins, reference, told, any(1, 2) == 1 ? spoil(text) : text);
            }
            int what = any(1, 4) == 1 ? any(0, 24) : any(9, 21);
            int a = argument(what, reference.count(0));
            int b = any(1, 12) == 1 ? any(-3, 7) : (what == 9 || what == 10 ? any(-1, 2) : any(0, 4));
            int c = any(1, 9) == 1 ? any(-1, 2) : any(0, 1);
            b = any(1, 40) == 1 ? farOff() : b;
            c = any(1, 40) == 1 ? farOff() : c;
            long due = ask(what, reference, a, b, c);
            long got = ask(what, coins, a, b, c);
            call++;
            if (got != due) {
                wrong++;
                System.out.println("run " + run + ", behind " + told + ": call " + what + "(" + a + ", " + b + ", " + c
                        + ") answered " + got + ", due is " + due);
                return;
            }
        }
    }

    private static int argument(int what, int kinds) {
        if (any(1, 15) == 1) {
            return any(1, 4) == 1 ? farOff() : any(-3, 32);
        }
        switch (what) {
            case 1: case 20: return any(0, kinds - 1);
            case 5: return any(0, 24);
            case 7: return any(-1, kinds - 1);
            case 8: return any(1, 3);
            case 13: return any(0, 5);
            case 21: return any(1, 2) == 1 ? any(0, 1) : 10 * any(1, 2) + any(0, kinds - 1);
            case 24: return any(-2, 5);
            default: return any(0, 3);
        }
    }

    private static int farOff() {
        int[] numbers = {Integer.MIN_VALUE, Integer.MIN_VALUE + 1, -1000000, 1000000, Integer.MAX_VALUE - 1, Integer.MAX_VALUE};
        return numbers[any(0, 5)];
    }

    /** Texts that leave little undone: kinds near to one another, so that many rows of throws end alike. */
    private static List<String> fullHouse() {
        int kinds = any(1, 5) == 1 ? any(1, 3) : any(4, 6);
        StringBuilder first = new StringBuilder(coinsLine(kinds)).append(";law ").append(any(0, 3));
        StringBuilder second = new StringBuilder("alone");
        StringBuilder third = new StringBuilder("come").append(visitors(any(1, 5) == 1 ? any(7, 9) : any(3, 7)));
        for (int i = 0; i < 8; i++) {
            first.append(i < 3 ? ";lies " + any(0, kinds - 1) + " " + any(1, 4) : purseLine(i % 4, kinds, 3));
        }
        for (int i = 0; i < 9; i++) {
            second.append(purseLine(any(0, 3), kinds, 2));
        }
        for (int person = 0; person < 4; person++) {
            String[] lines = {"never ", "greedy ", "greedy ", "cheap ", "cheap ", "waiting "};
            int habit = any(0, 5);
            third.append(';').append(lines[habit]).append(person).append(habit == 5 ? " " + any(0, 9) : "");
        }
        if (any(1, 6) == 1) {
            third.append(";come").append(visitors(any(1, 9)));
        }
        return List.of(first.toString(), second.toString(), third.toString());
    }

    private static String purseLine(int person, int kinds, int most) {
        return ";purse " + person + " " + any(0, kinds - 1) + " " + any(1, most);
    }

    private static int tell(int run, ThrownCoins coins, Reference reference, List<String> told, String text) {
        byte[] bytes = text.getBytes(StandardCharsets.ISO_8859_1);
        int calls = 0;
        for (int i = 0; i < bytes.length; calls++) {
            int n = Math.min(any(1, 8), bytes.length - i);
            long packed = any(0, 1) == 0 || n == 8 ? 0 : -1L << 8 * n;
            for (int j = 0; j < n; j++) {
                packed |= (bytes[i + j] & 255L) << 8 * j;
            }
            same(run, text, coins.write(packed, n), reference.write(packed, n));
            i += n;
        }
        same(run, text, coins.fault(), reference.fault());
        int done = reference.sunday();
        same(run, text, coins.sunday(), done);
        if (done < 0) {
            same(run, text, coins.erase(), reference.erase());
        } else {
            told.add(text);
        }
        return calls + 3;
    }

    private static void same(int run, String text, long got, long due) {
        if (got != due) {
            wrong++;
            System.out.println("run " + run + ", text " + text + ": answered " + got + ", due is " + due);
        }
    }

    private static long ask(int what, ThrownCoins x, int a, int b, int c) {
        switch (what) {
            case 0: return x.fault();
            case 1: return x.coin(a, c);
            case 2: return x.purse(a, b);
            case 3: return x.person(a, b);
            case 4: return x.as(a, b);
            case 5: return x.come(a);
            case 6: return x.gain(a, b);
            case 7: return x.visit(a);
            case 8: return x.go(a);
            case 9: case 10: return x.plan(a, b);
            case 11: case 12: return x.game(a);
            case 13: return x.choice(a);
            case 14: case 15: return x.league(a, b);
            case 16: case 17: return x.mean(a, 2 * b + c, c);
            case 18: return x.dry();
            case 19: return x.bait(a);
            case 20: return x.note(a, notedWorth(a, b, c));
            case 21: return x.lay(a);
            case 22: return b == 0 ? x.forget() : x.keep(c);
            case 23: return x.back(c);
            default: return x.count(a + 2);
        }
    }

    private static long ask(int what, Reference x, int a, int b, int c) {
        switch (what) {
            case 0: return x.fault();
            case 1: return x.coin(a, c);
            case 2: return x.purse(a, b);
            case 3: return x.person(a, b);
            case 4: return x.as(a, b);
            case 5: return x.come(a);
            case 6: return x.gain(a, b);
            case 7: return x.visit(a);
            case 8: return x.go(a);
            case 9: case 10: return x.plan(a, b);
            case 11: case 12: return x.game(a);
            case 13: return x.choice(a);
            case 14: case 15: return x.league(a, b);
            case 16: case 17: return x.mean(a, 2 * b + c, c);
            case 18: return x.dry();
            case 19: return x.bait(a);
            case 20: return x.note(a, notedWorth(a, b, c));
            case 21: return x.lay(a);
            case 22: return b == 0 ? x.forget() : x.keep(c);
            case 23: return x.back(c);
            default: return x.count(a + 2);
        }
    }

    /** The least kind takes nothing by most laws, a next kind little: so some notes leave something to ask about. */
    private static int notedWorth(int kind, int b, int c) {
        return Math.abs(b) > 4 ? b * 2000 : c == 0 ? 0 : kind * b;
    }

    private static String someText(int kinds) {
        StringBuilder text = new StringBuilder();
        int lines = any(1, 12) == 1 ? any(9, 11) : any(1, 5);
        for (int i = 0; i < lines; i++) {
            text.append(i == 0 ? "" : blanks() + ";" + blanks()).append(someLine(kinds));
        }
        return text.length() > 200 ? text.substring(0, 200) : text.toString();
    }

    private static String blanks() {
        return any(1, 8) == 1 ? "  " : any(1, 4) == 1 ? " " : "";
    }

    private static String coinsLine(int kinds) {
        StringBuilder line = new StringBuilder("coins");
        int step = any(1, 9) == 1 ? 160 : any(1, 6);
        int worth = 0;
        for (int i = 0; i < kinds; i++) {
            worth += any(1, step);
            line.append(' ').append(worth);
        }
        return line.toString();
    }

    private static String someLine(int kinds) {
        int person = any(0, 3);
        switch (any(0, 15)) {
            case 0: return any(1, 3) == 1 ? coinsLine(any(1, 6)) : "law " + any(0, 3);
            case 1: case 2: case 3: return "lies " + any(0, kinds) + " " + (any(1, 5) == 1 ? any(0, 21) : any(0, 4));
            case 4: case 5: case 6:
                return "purse " + person + " " + any(0, kinds) + " " + (any(1, 9) == 1 ? any(0, 21) : any(0, 2));
            case 7: return "never " + person;
            case 8: case 9: return "greedy " + person;
            case 10: return "waiting " + person + " " + (any(1, 4) == 1 ? any(0, 100) : any(0, 9));
            case 11: return "cheap " + person;
            case 12: return "law " + any(0, 3);
            case 13: return "alone;come" + visitors(any(1, 6));
            case 14: return any(1, 2) == 1 ? "alone" : "come" + visitors(any(1, 10));
            default: return "come" + visitors(any(1, 3));
        }
    }

    private static String visitors(int many) {
        StringBuilder row = new StringBuilder();
        for (int i = 0; i < many; i++) {
            row.append(' ').append(any(0, 3));
        }
        return row.toString();
    }

    private static String spoil(String text) {
        int at = any(0, text.length() - 1);
        String put = String.valueOf((char) (any(1, 3) == 1 ? any(0, 255) : "; 09azc".charAt(any(0, 6))));
        switch (any(0, 3)) {
            case 0: return text.substring(0, at);
            case 1: return text.substring(0, at) + text.substring(at + 1);
            case 2: return text.length() < 200 ? text.substring(0, at) + put + text.substring(at) : text;
            default: return text.substring(0, at) + put + text.substring(at + 1);
        }
    }

    private static final class Fault extends RuntimeException {
        private static final long serialVersionUID = 1L;
        final int place;

        Fault(int place) {
            this.place = place;
        }
    }

    private static final class World {
        int[] lies = new int[6];
        int[][] purses = new int[4][6];
        int gone;

        World copy() {
            World other = new World();
            other.lies = lies.clone();
            for (int i = 0; i < 4; i++) {
                other.purses[i] = purses[i].clone();
            }
            other.gone = gone;
            return other;
        }
    }

    private static final class House {
        List<Integer> worths = new ArrayList<>(List.of(1));
        String[] habits = {"never", "never", "never", "never"};
        int[] bounds = new int[4];
        List<Integer> visits = new ArrayList<>();
        int law;
        World world = new World();

        House copy() {
            House other = new House();
            other.worths = new ArrayList<>(worths);
            other.habits = habits.clone();
            other.bounds = bounds.clone();
            other.visits = new ArrayList<>(visits);
            other.law = law;
            other.world = world.copy();
            return other;
        }
    }

    /** The document read a second time, with no care for speed or room. */
    private static final class Reference {
        private House house = new House();
        private World world = new World();
        private final StringBuilder text = new StringBuilder();
        private final World[] kept = new World[2];
        private final List<int[]> notes = new ArrayList<>();
        private List<String> words;
        private List<Integer> places;
        private int at;

        int write(long bytes, int n) {
            if (n < 1 || n > 8) {
                return -3;
            }
            if (text.length() + n > 200) {
                return -5;
            }
            for (int i = 0; i < n; i++) {
                text.append((char) (bytes >> 8 * i & 255));
            }
            return text.length();
        }

        int erase() {
            int had = text.length();
            text.setLength(0);
            return had;
        }

        int fault() {
            try {
                read();
                return -1;
            } catch (Fault fault) {
                return fault.place;
            }
        }

        int sunday() {
            House read;
            try {
                read = read();
            } catch (Fault fault) {
                return -4;
            }
            int lines = 1 + (int) text.chars().filter(c -> c == ';').count();
            house = read;
            world = house.world.copy();
            kept[0] = null;
            kept[1] = null;
            notes.clear();
            text.setLength(0);
            return lines;
        }

        private House read() {
            words = new ArrayList<>();
            places = new ArrayList<>();
            Matcher tokens = Pattern.compile("[a-z]+|[0-9]+|[^ ]", Pattern.DOTALL).matcher(text);
            while (tokens.find()) {
                words.add(tokens.group());
                places.add(tokens.start());
            }
            words.add("");
            places.add(text.length());
            at = 0;
            House draft = house.copy();
            line(draft);
            for (int lines = 1; !words.get(at).isEmpty(); lines++) {
                if (!words.get(at).equals(";") || lines == 10) {
                    throw new Fault(places.get(at));
                }
                at++;
                line(draft);
            }
            return draft;
        }

        private boolean numberNext() {
            return words.get(at).matches("[0-9]+");
        }

        private int number(int least, int most) {
            String word = words.get(at);
            if (!word.matches("[0-9]{1,3}") || Integer.parseInt(word) < least || Integer.parseInt(word) > most) {
                throw new Fault(places.get(at));
            }
            at++;
            return Integer.parseInt(word);
        }

        private void line(House draft) {
            String word = words.get(at);
            if (!List.of("coins", "lies", "purse", "never", "greedy", "waiting", "cheap", "come", "law", "alone").contains(word)) {
                throw new Fault(places.get(at));
            }
            at++;
            switch (word) {
                case "coins":
                    draft.worths.clear();
                    do {
                        int ahead = draft.worths.isEmpty() ? 0 : draft.worths.get(draft.worths.size() - 1);
                        draft.worths.add(number(ahead + 1, 999));
                    } while (numberNext() && draft.worths.size() < 6);
                    draft.world = new World();
                    break;
                case "lies":
                    int lying = number(0, draft.worths.size() - 1);
                    draft.world.lies[lying] = number(0, 20);
                    break;
                case "purse":
                    int owner = number(0, 3);
                    int had = number(0, draft.worths.size() - 1);
                    draft.world.purses[owner][had] = number(0, 20);
                    break;
                case "come":
                    int more = 0;
                    do {
                        int who = number(0, draft.visits.size() == 24 ? -1 : 3);
                        draft.visits.add(who);
                        more++;
                    } while (numberNext() && more < 9);
                    break;
                case "law":
                    draft.law = number(0, 3);
                    break;
                case "alone":
                    draft.visits.clear();
                    break;
                default:
                    int person = number(0, 3);
                    draft.habits[person] = word;
                    draft.bounds[person] = word.equals("waiting") ? number(0, 99) : -1;
            }
        }

        // ---- throws

        private int kinds() {
            return house.worths.size();
        }

        private int left() {
            return house.visits.size() - world.gone;
        }

        private int[] taken(int[] lies, int kind) {
            int[] taken = new int[6];
            switch (house.law) {
                case 0:
                    System.arraycopy(lies, 0, taken, 0, kind);
                    break;
                case 1:
                    System.arraycopy(lies, 0, taken, 0, kind + 1);
                    break;
                default:
                    int greatest = -1;
                    for (int k = 0; k < kind; k++) {
                        greatest = lies[k] > 0 ? k : greatest;
                    }
                    if (greatest >= 0) {
                        taken[greatest] = house.law == 2 ? 1 : lies[greatest];
                    }
            }
            return taken;
        }

        private int worth(int[] coins) {
            int sum = 0;
            for (int k = 0; k < kinds(); k++) {
                sum += coins[k] * house.worths.get(k);
            }
            return sum;
        }

        private int gained(World w, int kind) {
            return worth(taken(w.lies, kind)) - house.worths.get(kind);
        }

        private void toss(World w, int person, int kind) {
            int[] taken = taken(w.lies, kind);
            for (int k = 0; k < 6; k++) {
                w.lies[k] -= taken[k];
                w.purses[person][k] += taken[k];
            }
            w.purses[person][kind]--;
            w.lies[kind]++;
        }

        private int habitual(World w, int person) {
            int greatest = -1;
            for (int k = 0; k < kinds(); k++) {
                if (w.purses[person][k] == 0 || gained(w, k) <= 0) {
                    continue;
                }
                if (house.habits[person].equals("cheap")) {
                    return k;
                }
                if (greatest == -1 || gained(w, k) > gained(w, greatest)) {
                    greatest = k;
                }
            }
            switch (house.habits[person]) {
                case "greedy":
                    return greatest;
                case "waiting":
                    return greatest >= 0 && gained(w, greatest) >= house.bounds[person] ? greatest : -1;
                default:
                    return -1;
            }
        }

        private void visitBy(World w, int person, int kind) {
            if (kind >= 0) {
                toss(w, person, kind);
            }
            w.gone++;
        }

        private void visitByHabit(World w) {
            int person = house.visits.get(w.gone);
            visitBy(w, person, habitual(w, person));
        }

        // ---- the face

        private boolean noPerson(int person) {
            return person < 0 || person > 3;
        }

        private boolean noKind(int kind) {
            return kind < 0 || kind >= kinds();
        }

        int coin(int kind, int what) {
            if (noKind(kind)) {
                return -2;
            }
            return what == 0 ? house.worths.get(kind) : what == 1 ? world.lies[kind] : -3;
        }

        int purse(int person, int kind) {
            return noPerson(person) || noKind(kind) ? -2 : world.purses[person][kind];
        }

        private int leftOf(List<Integer> people) {
            return (int) house.visits.subList(world.gone, house.visits.size()).stream().filter(people::contains).count();
        }

        int person(int person, int what) {
            if (noPerson(person)) {
                return -2;
            }
            switch (what) {
                case 0: return worth(world.purses[person]);
                case 1: return List.of("never", "greedy", "waiting", "cheap").indexOf(house.habits[person]);
                case 2: return house.habits[person].equals("waiting") ? house.bounds[person] : -1;
                case 3: return leftOf(List.of(person));
                default: return -3;
            }
        }

        int as(int person, int habit) {
            if (noPerson(person)) {
                return -2;
            }
            if (habit < 0 || habit > 5) {
                return -3;
            }
            String[] those = {"never greedy waiting cheap", "never", "greedy waiting cheap", "greedy waiting", "waiting", "cheap"};
            return those[habit].contains(house.habits[person]) ? habitual(world, person) : -4;
        }

        int come(int t) {
            return t < 0 ? -3 : t < house.visits.size() ? house.visits.get(t) : -1;
        }

        int gain(int person, int kind) {
            if (noPerson(person) || noKind(kind)) {
                return -2;
            }
            return world.purses[person][kind] == 0 ? -4 : 100000 + gained(world, kind);
        }

        int visit(int kind) {
            if (kind != -1 && noKind(kind)) {
                return -2;
            }
            if (left() == 0) {
                return -4;
            }
            int who = house.visits.get(world.gone);
            if (kind >= 0 && world.purses[who][kind] == 0) {
                return -4;
            }
            int before = worth(world.purses[who]);
            visitBy(world, who, kind);
            return 100000 + worth(world.purses[who]) - before;
        }

        int go(int n) {
            if (n < 1 || n > 24) {
                return -3;
            }
            for (int i = 0; i < n && left() > 0; i++) {
                visitByHabit(world);
            }
            return world.gone;
        }

        // ---- all rows, one after another, in their order

        private int bestWorth;
        private List<Integer> bestRow;

        private void tryRows(World w, List<Integer> people, List<Integer> row) {
            if (w.gone == house.visits.size()) {
                int sum = 0;
                for (int person : people) {
                    sum += worth(w.purses[person]);
                }
                if (sum > bestWorth) {
                    bestWorth = sum;
                    bestRow = new ArrayList<>(row);
                }
                return;
            }
            int who = house.visits.get(w.gone);
            if (!people.contains(who)) {
                World next = w.copy();
                visitByHabit(next);
                tryRows(next, people, row);
                return;
            }
            for (int kind = -1; kind < kinds(); kind++) {
                if (kind == -1 || w.purses[who][kind] > 0) {
                    World next = w.copy();
                    visitBy(next, who, kind);
                    row.add(kind);
                    tryRows(next, people, row);
                    row.remove(row.size() - 1);
                }
            }
        }

        private void planFor(List<Integer> people) {
            bestWorth = -1;
            tryRows(world, people, new ArrayList<>());
        }

        int plan(int person, int i) {
            if (noPerson(person)) {
                return -2;
            }
            if (i < -1) {
                return -3;
            }
            if (leftOf(List.of(person)) > 5) {
                return -4;
            }
            planFor(List.of(person));
            return i == -1 ? bestWorth : i < bestRow.size() ? bestRow.get(i) + 1 : -1;
        }

        int league(int one, int other) {
            if (noPerson(one) || noPerson(other)) {
                return -2;
            }
            if (one == other) {
                return -3;
            }
            if (leftOf(List.of(one, other)) > 5) {
                return -4;
            }
            planFor(List.of(one, other));
            return bestWorth;
        }

        /** The four wealths in the end, and behind them what is thrown, visit by visit. */
        private List<Integer> played(World w) {
            List<Integer> best = new ArrayList<>();
            if (w.gone == house.visits.size()) {
                for (int[] purse : w.purses) {
                    best.add(worth(purse));
                }
                return best;
            }
            int who = house.visits.get(w.gone);
            for (int kind = -1; kind < kinds(); kind++) {
                if (kind == -1 || w.purses[who][kind] > 0) {
                    World next = w.copy();
                    visitBy(next, who, kind);
                    List<Integer> end = played(next);
                    if (best.isEmpty() || end.get(who) > best.get(who)) {
                        best = end;
                        best.add(4, kind);
                    }
                }
            }
            return best;
        }

        int game(int person) {
            return noPerson(person) ? -2 : left() > 6 ? -4 : played(world).get(person);
        }

        int choice(int i) {
            if (i < 0) {
                return -3;
            }
            return left() > 6 ? -4 : i < left() ? played(world).get(4 + i) + 1 : -1;
        }

        /** Every set of visits of others that may be there, with its chance in tenths of tenths. */
        long mean(int person, int p, int part) {
            if (noPerson(person)) {
                return -2;
            }
            if (p < 0 || p > 10 || part < 0 || part > 1) {
                return -3;
            }
            if (left() > 10) {
                return -4;
            }
            BigInteger above = BigInteger.ZERO;
            BigInteger below = BigInteger.TEN.pow(left());
            for (int set = 0; set < 1 << left(); set++) {
                World w = world.copy();
                BigInteger weight = BigInteger.ONE;
                for (int i = 0; i < left(); i++) {
                    boolean there = (set >> i & 1) == 1;
                    boolean own = house.visits.get(w.gone) == person;
                    int chance = own ? 10 : p;
                    weight = weight.multiply(BigInteger.valueOf(there ? chance : 10 - chance));
                    if (there) {
                        visitByHabit(w);
                    } else {
                        w.gone++;
                    }
                }
                above = above.add(weight.multiply(BigInteger.valueOf(worth(w.purses[person]))));
            }
            BigInteger common = above.gcd(below);
            return (part == 0 ? above : below).divide(common).longValueExact();
        }

        int dry() {
            int round = house.visits.size();
            if (round == 0) {
                return -1;
            }
            World w = world.copy();
            List<Boolean> thrown = new ArrayList<>();
            for (int i = 0; i < 200; i++) {
                int who = house.visits.get((world.gone + i) % round);
                int kind = habitual(w, who);
                if (kind >= 0) {
                    toss(w, who, kind);
                }
                thrown.add(kind >= 0);
                if (thrown.size() >= round && !thrown.subList(thrown.size() - round, thrown.size()).contains(true)) {
                    return thrown.size();
                }
            }
            return -1;
        }

        private int baitFrom(World w, int person, int coins) {
            int least = habitual(w, person) >= 0 ? 0 : Integer.MAX_VALUE;
            for (int k = 0; k < kinds() && coins > 0; k++) {
                World baited = w.copy();
                baited.lies[k]++;
                int more = baitFrom(baited, person, coins - 1);
                least = more == Integer.MAX_VALUE ? least : Math.min(least, more + house.worths.get(k));
            }
            return least;
        }

        int bait(int person) {
            if (noPerson(person)) {
                return -2;
            }
            int least = baitFrom(world, person, 3);
            return least == Integer.MAX_VALUE ? -1 : least;
        }

        int note(int kind, int w) {
            if (noKind(kind)) {
                return -2;
            }
            if (w < 0 || w > 9999) {
                return -3;
            }
            if (notes.size() == 6) {
                return -5;
            }
            notes.add(new int[] {kind, w});
            return notes.size();
        }

        int forget() {
            int had = notes.size();
            notes.clear();
            return had;
        }

        private boolean holds(int[] lay) {
            World w = new World();
            w.lies = lay.clone();
            for (int[] note : notes) {
                if (worth(taken(w.lies, note[0])) != note[1]) {
                    return false;
                }
                toss(w, 0, note[0]);
            }
            return true;
        }

        int lay(int what) {
            boolean kindAsked = what >= 10 && what < 10 + kinds() || what >= 20 && what < 20 + kinds();
            if (what != 0 && what != 1 && !kindAsked) {
                return -3;
            }
            if (kinds() > 4) {
                return -4;
            }
            List<String> all = new ArrayList<>();
            for (int code = 0; code < Math.pow(4, kinds()); code++) {
                String figures = "000" + Integer.toString(code, 4);
                figures = figures.substring(figures.length() - kinds());
                int[] lay = new int[6];
                for (int k = 0; k < kinds(); k++) {
                    lay[k] = figures.charAt(k) - '0';
                }
                if (holds(lay)) {
                    all.add(figures);
                }
            }
            if (what == 0) {
                return all.size();
            }
            if (all.isEmpty()) {
                return -1;
            }
            if (what == 1) {
                return Integer.parseInt(all.get(0), 4);
            }
            int[] sorted = all.stream().mapToInt(lay -> lay.charAt(what % 10) - '0').sorted().toArray();
            return what < 20 ? sorted[0] : sorted[sorted.length - 1];
        }

        int keep(int k) {
            if (k < 0 || k > 1) {
                return -2;
            }
            kept[k] = world.copy();
            return world.gone;
        }

        int back(int k) {
            if (k < 0 || k > 1) {
                return -2;
            }
            if (kept[k] == null) {
                return -4;
            }
            world = kept[k].copy();
            return world.gone;
        }

        int count(int what) {
            switch (what) {
                case 0: return kinds();
                case 1: return worth(world.lies);
                case 2: return house.law;
                case 3: return house.visits.size();
                case 4: return world.gone;
                case 5: return notes.size();
                case 6: return text.length();
                case 7:
                    int sum = worth(world.lies);
                    for (int[] purse : world.purses) {
                        sum += worth(purse);
                    }
                    return sum;
                default: return -3;
            }
        }
    }
}
