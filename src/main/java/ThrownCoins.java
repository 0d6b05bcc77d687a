/**
 * A fountain into which one throws a coin and takes out what is worth less that lies there.
 * What each call answers is told, promise by promise, in ../shared/DOC.md.
 */
public final class ThrownCoins {
    public static final int NONE = -1, UNKNOWN = -2, OUTSIDE = -3, NOT = -4, FULL = -5;

    private static final int PEOPLE = 4, FOUNTAIN = 4, OWNERS = 5;
    private static final int MOST_KINDS = 6, MOST_VISITS = 24, MOST_WORTH = 999, MOST_COINS = 20;
    private static final int MOST_BYTES = 200, MOST_LINES = 10, MOST_DIGITS = 3, MOST_COMING = 9, MOST_BOUND = 99;
    private static final int MOST_NOTES = 6, MOST_NOTED = 9999, MOST_LAID = 3, MOST_LAY_KINDS = 4;
    private static final int MOST_PLANNED = 5, MOST_PLAYED = 6, MOST_CHANCES = 10, MOST_ROUNDS = 200;
    private static final int KEEPS = 2, WITHOUT = 100000;

    private static final int BELOW = 0, UP_TO = 1, ONE_OF_NEXT = 2, ALL_OF_NEXT = 3;
    /** No limit: there are never more than a hundred coins of a kind. */
    private static final int ALL_THERE_ARE = 1000000;
    private static final int NEVER = 0, GREEDY = 1, WAITING = 2, CHEAP = 3;
    private static final int LAST_TAKEN_AS = 5;
    private static final int EACH_HIS_OWN = 0x8421;

    private final Told told = new Told();
    private final Lot now = new Lot();
    private final Lot[] kept = {new Lot(), new Lot()};
    private final Text text = new Text();
    private final Foretelling foretelling = new Foretelling(told);
    private final Notes notes = new Notes(told);
    private int keptBits;

    public ThrownCoins() {
    }

    // ---- what is told

    public int write(long bytes, int n) {
        if (n < 1 || n > 8) {
            return OUTSIDE;
        }
        if (text.length + n > MOST_BYTES) {
            return FULL;
        }
        for (int i = 0; i < n; i++) {
            text.append((int) (bytes >> 8 * i & 255));
        }
        return text.length;
    }

    public int erase() {
        int had = text.length;
        text.length = 0;
        return had;
    }

    public int fault() {
        return text.readOver(told);
    }

    public int sunday() {
        if (text.readOver(told) != NONE) {
            return NOT;
        }
        told.copyFrom(text.draft);
        now.copyFrom(told.atFirst);
        text.length = 0;
        notes.size = 0;
        keptBits = 0;
        foretelling.becomeStale();
        return text.lines;
    }

    public int coin(int kind, int what) {
        if (!told.hasKind(kind)) {
            return UNKNOWN;
        }
        if (what < 0 || what > 1) {
            return OUTSIDE;
        }
        return what == 0 ? told.worthOf(kind) : now.of(FOUNTAIN, kind);
    }

    public int purse(int person, int kind) {
        if (!isPerson(person) || !told.hasKind(kind)) {
            return UNKNOWN;
        }
        return now.of(person, kind);
    }

    public int person(int person, int what) {
        if (!isPerson(person)) {
            return UNKNOWN;
        }
        switch (what) {
            case 0:
                return told.wealth(now, person);
            case 1:
                return told.folkOf(person).habit();
            case 2:
                return told.folkOf(person).waitsFor(told, person);
            case 3:
                return told.visitsLeft(now, 1 << person);
            default:
                return OUTSIDE;
        }
    }

    public int as(int person, int habit) {
        if (!isPerson(person)) {
            return UNKNOWN;
        }
        if (habit < 0 || habit > LAST_TAKEN_AS) {
            return OUTSIDE;
        }
        Folk folk = told.folkOf(person);
        return isA(folk, habit) ? folk.wouldThrow(told, now, person) : NOT;
    }

    // ---- visits

    public int come(int t) {
        return t < 0 ? OUTSIDE : told.visitor(t);
    }

    public int gain(int person, int kind) {
        if (!isPerson(person) || !told.hasKind(kind)) {
            return UNKNOWN;
        }
        if (now.of(person, kind) == 0) {
            return NOT;
        }
        return told.gainOf(now, kind) + WITHOUT;
    }

    public int visit(int kind) {
        if (kind != NONE && !told.hasKind(kind)) {
            return UNKNOWN;
        }
        int who = told.visitor(now.gone);
        if (who == NONE || kind != NONE && now.of(who, kind) == 0) {
            return NOT;
        }
        int gained = kind == NONE ? 0 : told.gainOf(now, kind);
        told.letVisit(now, kind);
        foretelling.becomeStale();
        return gained + WITHOUT;
    }

    public int go(int n) {
        if (n < 1 || n > MOST_VISITS) {
            return OUTSIDE;
        }
        for (int i = 0; i < n && now.gone < told.visitCount; i++) {
            told.letVisit(now, told.habitual(now));
        }
        foretelling.becomeStale();
        return now.gone;
    }

    // ---- foretold

    public int plan(int person, int i) {
        if (!isPerson(person)) {
            return UNKNOWN;
        }
        if (i < NONE) {
            return OUTSIDE;
        }
        int own = 1 << person;
        if (told.visitsLeft(now, own) > MOST_PLANNED) {
            return NOT;
        }
        foretelling.foresee(now, goalFor(person, own));
        return i == NONE ? foretelling.endOf(person) : foretelling.step(i);
    }

    public int game(int person) {
        if (!isPerson(person)) {
            return UNKNOWN;
        }
        if (tooLongForGame()) {
            return NOT;
        }
        foretelling.foresee(now, EACH_HIS_OWN);
        return foretelling.endOf(person);
    }

    public int choice(int i) {
        if (i < 0) {
            return OUTSIDE;
        }
        if (tooLongForGame()) {
            return NOT;
        }
        foretelling.foresee(now, EACH_HIS_OWN);
        return foretelling.step(i);
    }

    public int league(int one, int other) {
        if (!isPerson(one) || !isPerson(other)) {
            return UNKNOWN;
        }
        if (one == other) {
            return OUTSIDE;
        }
        int both = 1 << one | 1 << other;
        if (told.visitsLeft(now, both) > MOST_PLANNED) {
            return NOT;
        }
        foretelling.foresee(now, goalFor(one, both) | goalFor(other, both));
        return foretelling.endOf(one) + foretelling.endOf(other);
    }

    public long mean(int person, int p, int part) {
        if (!isPerson(person)) {
            return UNKNOWN;
        }
        if (p < 0 || p > 10 || part < 0 || part > 1) {
            return OUTSIDE;
        }
        if (told.visitCount - now.gone > MOST_CHANCES) {
            return NOT;
        }
        return foretelling.expected(now, person, p, part);
    }

    public int dry() {
        return foretelling.tillDry(now);
    }

    public int bait(int person) {
        return isPerson(person) ? foretelling.leastBait(now, person) : UNKNOWN;
    }

    // ---- what lay there

    public int note(int kind, int w) {
        if (!told.hasKind(kind)) {
            return UNKNOWN;
        }
        if (w < 0 || w > MOST_NOTED) {
            return OUTSIDE;
        }
        return notes.add(kind, w) ? notes.size : FULL;
    }

    public int forget() {
        int had = notes.size;
        notes.size = 0;
        return had;
    }

    public int lay(int what) {
        int leastOf = what >= 10 && what < 20 ? what - 10 : NONE;
        int mostOf = what >= 20 && what < 30 ? what - 20 : NONE;
        if (what != 0 && what != 1 && !told.hasKind(leastOf) && !told.hasKind(mostOf)) {
            return OUTSIDE;
        }
        if (told.kinds > MOST_LAY_KINDS) {
            return NOT;
        }
        notes.searchLayings();
        if (what == 0) {
            return notes.layings;
        }
        if (what == 1) {
            return notes.first;
        }
        return leastOf != NONE ? notes.leastOf(leastOf) : notes.mostOf(mostOf);
    }

    public int keep(int k) {
        if (k < 0 || k >= KEEPS) {
            return UNKNOWN;
        }
        kept[k].copyFrom(now);
        keptBits |= 1 << k;
        return now.gone;
    }

    public int back(int k) {
        if (k < 0 || k >= KEEPS) {
            return UNKNOWN;
        }
        if ((keptBits >> k & 1) == 0) {
            return NOT;
        }
        now.copyFrom(kept[k]);
        foretelling.becomeStale();
        return now.gone;
    }

    public int count(int what) {
        switch (what) {
            case 0:
                return told.kinds;
            case 1:
                return told.wealth(now, FOUNTAIN);
            case 2:
                return told.law;
            case 3:
                return told.visitCount;
            case 4:
                return now.gone;
            case 5:
                return notes.size;
            case 6:
                return text.length;
            case 7:
                return wealthOfAll();
            default:
                return OUTSIDE;
        }
    }

    // ---- what the calls share

    private int wealthOfAll() {
        int sum = 0;
        for (int owner = 0; owner < OWNERS; owner++) {
            sum += told.wealth(now, owner);
        }
        return sum;
    }

    private boolean tooLongForGame() {
        return told.visitCount - now.gone > MOST_PLAYED;
    }

    private static boolean isPerson(int person) {
        return person >= 0 && person < PEOPLE;
    }

    /** A goal is the set of people whose purses one wants most; each has four bits of all goals, 0 for BY HABIT. */
    private static int goalFor(int person, int whosePurses) {
        return whosePurses << 4 * person;
    }

    private static boolean isA(Folk folk, int habit) {
        switch (habit) {
            case 0:
                return true;
            case 1:
                return folk instanceof Never;
            case 2:
                return folk instanceof Thrower;
            case 3:
                return folk instanceof Greedy;
            case 4:
                return folk instanceof Waiting;
            default:
                return folk instanceof Cheap;
        }
    }

    /** What lies in the fountain, what is had in the purses, and how many visits have gone. */
    private static final class Lot {
        private final int[] coins = new int[OWNERS * MOST_KINDS];
        private int gone;

        int of(int owner, int kind) {
            boolean there = owner >= 0 && owner < OWNERS && kind >= 0 && kind < MOST_KINDS;
            return there ? coins[owner * MOST_KINDS + kind] : 0;
        }

        void add(int owner, int kind, int more) {
            if (owner >= 0 && owner < OWNERS && kind >= 0 && kind < MOST_KINDS) {
                coins[owner * MOST_KINDS + kind] += more;
            }
        }

        void empty() {
            for (int i = 0; i < coins.length; i++) {
                coins[i] = 0;
            }
        }

        void copyFrom(Lot other) {
            System.arraycopy(other.coins, 0, coins, 0, coins.length);
            gone = other.gone;
        }
    }

    /** What the texts told: it stands until another text tells otherwise. */
    private static final class Told {
        private final Folk never = new Never();
        private final Folk greedy = new Greedy();
        private final Folk waiting = new Waiting();
        private final Folk cheap = new Cheap();
        private final int[] worths = new int[MOST_KINDS];
        private final int[] habits = new int[PEOPLE];
        private final int[] bounds = new int[PEOPLE];
        private final int[] visitors = new int[MOST_VISITS];
        private final Lot atFirst = new Lot();
        private int kinds = 1;
        private int visitCount;
        private int law = BELOW;

        Told() {
            worths[0] = 1;
        }

        void copyFrom(Told other) {
            System.arraycopy(other.worths, 0, worths, 0, MOST_KINDS);
            System.arraycopy(other.habits, 0, habits, 0, PEOPLE);
            System.arraycopy(other.bounds, 0, bounds, 0, PEOPLE);
            System.arraycopy(other.visitors, 0, visitors, 0, MOST_VISITS);
            atFirst.copyFrom(other.atFirst);
            kinds = other.kinds;
            visitCount = other.visitCount;
            law = other.law;
        }

        boolean hasKind(int kind) {
            return kind >= 0 && kind < kinds;
        }

        int worthOf(int kind) {
            return kind >= 0 && kind < MOST_KINDS ? worths[kind] : 0;
        }

        void addKind(int worth) {
            if (kinds >= 0 && kinds < MOST_KINDS) {
                worths[kinds] = worth;
                kinds++;
            }
        }

        void setHabit(int person, int habit, int bound) {
            if (isPerson(person)) {
                habits[person] = habit;
                bounds[person] = bound;
            }
        }

        int boundOf(int person) {
            return person >= 0 && person < PEOPLE ? bounds[person] : 0;
        }

        Folk folkOf(int person) {
            switch (isPerson(person) ? habits[person] : NEVER) {
                case GREEDY:
                    return greedy;
                case WAITING:
                    return waiting;
                case CHEAP:
                    return cheap;
                default:
                    return never;
            }
        }

        void addVisit(int person) {
            if (visitCount >= 0 && visitCount < MOST_VISITS) {
                visitors[visitCount] = person;
                visitCount++;
            }
        }

        int visitor(int t) {
            return t >= 0 && t < visitCount && t < MOST_VISITS ? visitors[t] : NONE;
        }

        /** How many visits of a set of people are left. */
        int visitsLeft(Lot lot, int people) {
            int left = 0;
            for (int t = lot.gone; t < visitCount; t++) {
                left += people >> visitor(t) & 1;
            }
            return left;
        }

        int wealth(Lot lot, int owner) {
            int sum = 0;
            for (int kind = 0; kind < kinds; kind++) {
                sum += worthOf(kind) * lot.of(owner, kind);
            }
            return sum;
        }

        int gainOf(Lot lot, int thrown) {
            int sum = -worthOf(thrown);
            for (int kind = greatestTaken(thrown); kind >= 0; kind--) {
                int taken = Math.min(lot.of(FOUNTAIN, kind), mostTakenOfKind());
                sum += worthOf(kind) * taken;
                if (taken > 0 && takesOneKind()) {
                    break;
                }
            }
            return sum;
        }

        void throwCoin(Lot lot, int person, int thrown) {
            for (int kind = greatestTaken(thrown); kind >= 0; kind--) {
                int taken = Math.min(lot.of(FOUNTAIN, kind), mostTakenOfKind());
                lot.add(FOUNTAIN, kind, -taken);
                lot.add(person, kind, taken);
                if (taken > 0 && takesOneKind()) {
                    break;
                }
            }
            lot.add(person, thrown, -1);
            lot.add(FOUNTAIN, thrown, 1);
        }

        private int greatestTaken(int thrown) {
            return law == UP_TO ? thrown : thrown - 1;
        }

        private int mostTakenOfKind() {
            return law == ONE_OF_NEXT ? 1 : ALL_THERE_ARE;
        }

        private boolean takesOneKind() {
            return law == ONE_OF_NEXT || law == ALL_OF_NEXT;
        }

        /** What is thrown by habit at the next visit. */
        int habitual(Lot lot) {
            int who = visitor(lot.gone);
            return folkOf(who).wouldThrow(this, lot, who);
        }

        /** The next visit goes, with a throw of a kind or (NONE) without. */
        void letVisit(Lot lot, int kind) {
            if (kind != NONE) {
                throwCoin(lot, visitor(lot.gone), kind);
            }
            lot.gone++;
        }
    }

    private abstract static class Folk {
        abstract int habit();

        /** The kind that he throws by habit, or NONE. */
        abstract int wouldThrow(Told told, Lot lot, int person);

        int waitsFor(Told told, int person) {
            return NONE;
        }
    }

    private static final class Never extends Folk {
        int habit() {
            return NEVER;
        }

        int wouldThrow(Told told, Lot lot, int person) {
            return NONE;
        }
    }

    private abstract static class Thrower extends Folk {
        /** Whether he looks for the greatest gain, or is content with the first. */
        abstract boolean comparesAll();

        int leastGain(Told told, int person) {
            return 1;
        }

        int wouldThrow(Told told, Lot lot, int person) {
            int best = NONE;
            int enough = leastGain(told, person);
            for (int kind = 0; kind < told.kinds; kind++) {
                int gained = lot.of(person, kind) > 0 ? told.gainOf(lot, kind) : 0;
                if (gained >= enough) {
                    best = kind;
                    enough = gained + 1;
                    if (!comparesAll()) {
                        return best;
                    }
                }
            }
            return best;
        }
    }

    private static class Greedy extends Thrower {
        int habit() {
            return GREEDY;
        }

        boolean comparesAll() {
            return true;
        }
    }

    private static final class Waiting extends Greedy {
        int habit() {
            return WAITING;
        }

        int leastGain(Told told, int person) {
            return Math.max(1, told.boundOf(person));
        }

        int waitsFor(Told told, int person) {
            return told.boundOf(person);
        }
    }

    private static final class Cheap extends Thrower {
        int habit() {
            return CHEAP;
        }

        boolean comparesAll() {
            return false;
        }
    }

    /** The text and its reading: line by line into a draft, up to the first token that cannot stand. */
    private static final class Text {
        private static final int END = 0, WORD = 1, NUMBER = 2, OTHER = 3;

        private final int[] bytes = new int[MOST_BYTES];
        private final Told draft = new Told();
        private int length;
        private int lines;
        private int begin;
        private int end;
        private int token;
        private int value;

        void append(int oneByte) {
            if (length >= 0 && length < MOST_BYTES) {
                bytes[length] = oneByte;
                length++;
            }
        }

        /** Where the first fault is, or NONE: then the draft is what the text makes of what was told. */
        int readOver(Told told) {
            draft.copyFrom(told);
            end = 0;
            nextToken();
            for (lines = 1; lines <= MOST_LINES; lines++) {
                if (!readLine()) {
                    return begin;
                }
                if (token == END) {
                    return NONE;
                }
                if (!isSemicolon() || lines == MOST_LINES) {
                    return begin;
                }
                nextToken();
            }
            return begin;
        }

        private void nextToken() {
            begin = end;
            while (begin < length && byteAt(begin) == ' ') {
                begin++;
            }
            token = tokenOf(byteAt(begin));
            end = Math.min(begin + 1, length);
            boolean row = token == WORD || token == NUMBER;
            while (row && end < length && tokenOf(byteAt(end)) == token) {
                end++;
            }
        }

        private int byteAt(int place) {
            return place >= 0 && place < length && place < MOST_BYTES ? bytes[place] : NONE;
        }

        private static int tokenOf(int oneByte) {
            if (oneByte == NONE) {
                return END;
            }
            if (oneByte >= 'a' && oneByte <= 'z') {
                return WORD;
            }
            return oneByte >= '0' && oneByte <= '9' ? NUMBER : OTHER;
        }

        private boolean isSemicolon() {
            return token == OTHER && byteAt(begin) == ';';
        }

        private boolean readLine() {
            if (readWord("coins")) {
                return readCoins();
            }
            if (readWord("lies")) {
                return readAmount(FOUNTAIN);
            }
            if (readWord("purse")) {
                return readNumber(0, PEOPLE - 1) && readAmount(value);
            }
            if (readWord("never")) {
                return readHabit(NEVER);
            }
            if (readWord("greedy")) {
                return readHabit(GREEDY);
            }
            if (readWord("waiting")) {
                return readWaiting();
            }
            if (readWord("cheap")) {
                return readHabit(CHEAP);
            }
            if (readWord("come")) {
                return readVisits();
            }
            if (readWord("law")) {
                return readLaw();
            }
            return readWord("alone") && leaveAlone();
        }

        private boolean readWord(String word) {
            if (token != WORD || end - begin != word.length()) {
                return false;
            }
            for (int i = 0; i < word.length(); i++) {
                if (byteAt(begin + i) != word.charAt(i)) {
                    return false;
                }
            }
            nextToken();
            return true;
        }

        private boolean readNumber(int least, int most) {
            if (token != NUMBER || end - begin > MOST_DIGITS) {
                return false;
            }
            value = 0;
            for (int i = begin; i < end; i++) {
                value = 10 * value + byteAt(i) - '0';
            }
            if (value < least || value > most) {
                return false;
            }
            nextToken();
            return true;
        }

        private boolean readCoins() {
            draft.atFirst.empty();
            draft.kinds = 0;
            int above = 0;
            for (int i = 0; i < MOST_KINDS; i++) {
                if (i > 0 && token != NUMBER) {
                    return true;
                }
                if (!readNumber(above + 1, MOST_WORTH)) {
                    return false;
                }
                above = value;
                draft.addKind(value);
            }
            return true;
        }

        private boolean readAmount(int owner) {
            if (!readNumber(0, draft.kinds - 1)) {
                return false;
            }
            int kind = value;
            if (!readNumber(0, MOST_COINS)) {
                return false;
            }
            draft.atFirst.add(owner, kind, value - draft.atFirst.of(owner, kind));
            return true;
        }

        private boolean readHabit(int habit) {
            if (!readNumber(0, PEOPLE - 1)) {
                return false;
            }
            draft.setHabit(value, habit, 0);
            return true;
        }

        private boolean readWaiting() {
            if (!readNumber(0, PEOPLE - 1)) {
                return false;
            }
            int person = value;
            if (!readNumber(0, MOST_BOUND)) {
                return false;
            }
            draft.setHabit(person, WAITING, value);
            return true;
        }

        private boolean readVisits() {
            for (int i = 0; i < MOST_COMING; i++) {
                if (i > 0 && token != NUMBER) {
                    return true;
                }
                if (draft.visitCount >= MOST_VISITS || !readNumber(0, PEOPLE - 1)) {
                    return false;
                }
                draft.addVisit(value);
            }
            return true;
        }

        private boolean readLaw() {
            if (!readNumber(BELOW, ALL_OF_NEXT)) {
                return false;
            }
            draft.law = value;
            return true;
        }

        private boolean leaveAlone() {
            draft.visitCount = 0;
            return true;
        }
    }

    /** What would come of it, played on lots of its own. */
    private static final class Foretelling {
        private static final int LEVELS = 11;

        private final Told told;
        private final Lot[] lots = new Lot[LEVELS];
        private final int[][] ends = new int[LEVELS][PEOPLE];
        private final int[][] rows = new int[LEVELS][LEVELS];
        private int goals = NONE;
        private int steps;
        private int hoping;
        private int tenths;

        Foretelling(Told told) {
            this.told = told;
            for (int level = 0; level < LEVELS; level++) {
                lots[level] = new Lot();
            }
        }

        void becomeStale() {
            goals = NONE;
        }

        /** Plays to the end, each with a goal for it and all others by habit; the same again is not played twice. */
        void foresee(Lot now, int newGoals) {
            if (goals == newGoals) {
                return;
            }
            goals = newGoals;
            steps = 0;
            for (int t = now.gone; t < told.visitCount; t++) {
                steps += isFree(told.visitor(t)) ? 1 : 0;
            }
            lots[0].copyFrom(now);
            playOn(this, 0);
        }

        int endOf(int person) {
            return isPerson(person) ? ends[0][person] : 0;
        }

        /** What is thrown at a free visit, and 1. */
        int step(int i) {
            return i >= 0 && i < steps && i < LEVELS ? rows[0][i] + 1 : NONE;
        }

        private int goalOf(int person) {
            return isPerson(person) ? goals >> 4 * person & 15 : 0;
        }

        private boolean isFree(int person) {
            return goalOf(person) != 0;
        }

        private static void playOn(Foretelling f, int level) {
            if (level < 0 || level >= LEVELS) {
                return;
            }
            Lot lot = f.lots[level];
            for (int t = lot.gone; t < f.told.visitCount && !f.isFree(f.told.visitor(t)); t++) {
                f.told.letVisit(lot, f.told.habitual(lot));
            }
            if (lot.gone >= f.told.visitCount || level + 1 >= LEVELS) {
                f.settle(level);
                return;
            }
            int who = f.told.visitor(lot.gone);
            boolean last = !f.comesAgain(who, lot.gone);
            int only = last ? f.told.greedy.wouldThrow(f.told, lot, who) : NONE;
            int best = NONE;
            for (int kind = NONE; kind < f.told.kinds; kind++) {
                if (last ? kind != only : kind != NONE && lot.of(who, kind) == 0) {
                    continue;
                }
                f.lots[level + 1].copyFrom(lot);
                f.told.letVisit(f.lots[level + 1], kind);
                playOn(f, level + 1);
                int worth = f.reached(level + 1, who);
                if (worth > best) {
                    best = worth;
                    f.takeOver(level, kind);
                }
            }
        }

        /** Nothing behind his last visit touches his goal: there the greatest gain is best, as for the greedy. */
        private boolean comesAgain(int who, int t) {
            for (int later = t + 1; later < told.visitCount; later++) {
                if (goalOf(told.visitor(later)) == goalOf(who)) {
                    return true;
                }
            }
            return false;
        }

        private void settle(int level) {
            for (int person = 0; person < PEOPLE; person++) {
                ends[level][person] = told.wealth(lots[level], person);
            }
        }

        private int reached(int level, int who) {
            int sum = 0;
            for (int person = 0; person < PEOPLE; person++) {
                sum += (goalOf(who) >> person & 1) * ends[level][person];
            }
            return sum;
        }

        private void takeOver(int level, int kind) {
            System.arraycopy(ends[level + 1], 0, ends[level], 0, PEOPLE);
            System.arraycopy(rows[level + 1], 0, rows[level], 0, LEVELS);
            rows[level][level] = kind;
        }

        long expected(Lot now, int person, int p, int part) {
            hoping = person;
            tenths = p;
            lots[0].copyFrom(now);
            int others = told.visitsLeft(now, 15 & ~(1 << person));
            long above = weigh(this, 0);
            long below = 1;
            for (int i = 0; i < others && i < MOST_CHANCES; i++) {
                below *= 10;
            }
            for (int i = 0; i < others && i < MOST_CHANCES; i++) {
                if (above % 2 == 0) {
                    above /= 2;
                    below /= 2;
                }
                if (above % 5 == 0) {
                    above /= 5;
                    below /= 5;
                }
            }
            return part == 0 ? above : below;
        }

        /** The wealth hoped for, times ten for each visit of others that is left. */
        private static long weigh(Foretelling f, int level) {
            if (level < 0 || level >= LEVELS) {
                return 0;
            }
            Lot lot = f.lots[level];
            long weight = 1;
            for (int t = lot.gone; t < f.told.visitCount; t++) {
                boolean certain = f.told.visitor(t) == f.hoping;
                int kind = f.told.habitual(lot);
                if (!certain && kind != NONE) {
                    long away = (10 - f.tenths) * weighNext(f, level, NONE);
                    long there = f.tenths * weighNext(f, level, kind);
                    return weight * (away + there);
                }
                f.told.letVisit(lot, kind);
                weight *= certain ? 1 : 10;
            }
            return weight * f.told.wealth(lot, f.hoping);
        }

        private static long weighNext(Foretelling f, int level, int kind) {
            if (level < 0 || level + 1 >= LEVELS) {
                return 0;
            }
            f.lots[level + 1].copyFrom(f.lots[level]);
            f.told.letVisit(f.lots[level + 1], kind);
            return weigh(f, level + 1);
        }

        int tillDry(Lot now) {
            Lot lot = lots[0];
            lot.copyFrom(now);
            int idle = 0;
            for (int n = 1; n <= MOST_ROUNDS && told.visitCount > 0; n++) {
                if (lot.gone >= told.visitCount) {
                    lot.gone = 0;
                }
                int kind = told.habitual(lot);
                told.letVisit(lot, kind);
                idle = kind == NONE ? idle + 1 : 0;
                if (idle == told.visitCount) {
                    return n;
                }
            }
            return NONE;
        }

        /** A kind NONE stands for no coin: so fewer than three are tried, too. */
        int leastBait(Lot now, int person) {
            int least = NONE;
            lots[0].copyFrom(now);
            for (int one = NONE; one < told.kinds; one++) {
                for (int two = one; two < told.kinds; two++) {
                    for (int three = two; three < told.kinds; three++) {
                        int worth = told.worthOf(one) + told.worthOf(two) + told.worthOf(three);
                        if ((least == NONE || worth < least) && tempts(person, one, two, three)) {
                            least = worth;
                        }
                    }
                }
            }
            return least;
        }

        private boolean tempts(int person, int one, int two, int three) {
            putIn(one, two, three, 1);
            boolean tempted = told.folkOf(person).wouldThrow(told, lots[0], person) != NONE;
            putIn(one, two, three, -1);
            return tempted;
        }

        private void putIn(int one, int two, int three, int each) {
            lots[0].add(FOUNTAIN, one, each);
            lots[0].add(FOUNTAIN, two, each);
            lots[0].add(FOUNTAIN, three, each);
        }
    }

    /** What was thrown and taken, and what may have lain there ahead of it. */
    private static final class Notes {
        private final Told told;
        private final Lot lot = new Lot();
        private final int[] thrown = new int[MOST_NOTES];
        private final int[] taken = new int[MOST_NOTES];
        private final int[] least = new int[MOST_KINDS];
        private final int[] most = new int[MOST_KINDS];
        private int size;
        private int layings;
        private int first;

        Notes(Told told) {
            this.told = told;
        }

        boolean add(int kind, int worth) {
            if (size < 0 || size >= MOST_NOTES) {
                return false;
            }
            thrown[size] = kind;
            taken[size] = worth;
            size++;
            return true;
        }

        int leastOf(int kind) {
            return kind >= 0 && kind < MOST_KINDS ? least[kind] : NONE;
        }

        int mostOf(int kind) {
            return kind >= 0 && kind < MOST_KINDS ? most[kind] : NONE;
        }

        void searchLayings() {
            layings = 0;
            first = NONE;
            for (int kind = 0; kind < MOST_KINDS; kind++) {
                least[kind] = NONE;
                most[kind] = NONE;
            }
            int all = 1 << 2 * Math.min(told.kinds, MOST_LAY_KINDS);
            for (int figures = 0; figures < all; figures++) {
                if (fits(figures)) {
                    tally(figures);
                }
            }
        }

        private int figureOf(int figures, int kind) {
            return figures >> 2 * (told.kinds - 1 - kind) & MOST_LAID;
        }

        /** Who threw is not told: person 0 stands in for all, with a purse that nobody looks into. */
        private boolean fits(int figures) {
            lot.empty();
            for (int kind = 0; kind < told.kinds; kind++) {
                lot.add(FOUNTAIN, kind, figureOf(figures, kind));
            }
            for (int i = 0; i < size && i < MOST_NOTES; i++) {
                if (told.gainOf(lot, thrown[i]) + told.worthOf(thrown[i]) != taken[i]) {
                    return false;
                }
                told.throwCoin(lot, 0, thrown[i]);
            }
            return true;
        }

        private void tally(int figures) {
            layings++;
            first = first == NONE ? figures : first;
            for (int kind = 0; kind < told.kinds && kind < MOST_KINDS; kind++) {
                int lay = figureOf(figures, kind);
                least[kind] = least[kind] == NONE ? lay : Math.min(least[kind], lay);
                most[kind] = Math.max(most[kind], lay);
            }
        }
    }
}
