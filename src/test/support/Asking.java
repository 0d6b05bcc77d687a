import java.nio.charset.StandardCharsets;
import java.util.ArrayList;
import java.util.List;
import java.util.function.Supplier;

/** What the tests share: answers held against those that are due, objects told by texts, and twins for refused calls. */
abstract class Asking {
    static final int NONE = -1, UNKNOWN = -2, OUTSIDE = -3, NOT = -4, FULL = -5;
    static final int LEAST = Integer.MIN_VALUE, MOST = Integer.MAX_VALUE;

    private static String sentence = "";
    private static int wrong;

    interface Call {
        long on(ThrownCoins x);
    }

    /** The words of the document that the answers behind it are held against. */
    static void sentence(String words) {
        sentence = words;
    }

    static void due(String call, long got, long want) {
        if (got != want) {
            wrong++;
            System.out.println(sentence + ": " + call + " answered " + got + ", due is " + want);
        }
    }

    static void end(String allIsWell) {
        System.out.println(wrong == 0 ? allIsWell : wrong + " answers are not as due");
        if (wrong != 0) {
            System.exit(1);
        }
    }

    static void writeText(ThrownCoins x, String text) {
        byte[] bytes = text.getBytes(StandardCharsets.ISO_8859_1);
        for (int i = 0; i < bytes.length; i += 8) {
            int n = Math.min(8, bytes.length - i);
            long packed = 0;
            for (int j = 0; j < n; j++) {
                packed |= (bytes[i + j] & 255L) << 8 * j;
            }
            due("write of '" + text + "'", x.write(packed, n), i + n);
        }
    }

    static ThrownCoins told(String... texts) {
        ThrownCoins x = new ThrownCoins();
        for (String text : texts) {
            tell(x, text);
        }
        return x;
    }

    static void tell(ThrownCoins x, String text) {
        writeText(x, text);
        due("sunday of '" + text + "'", x.sunday(), 1 + text.chars().filter(c -> c == ';').count());
    }

    static void faultAt(int place, String text) {
        faultBehind(new ThrownCoins(), place, text);
    }

    static void faultBehind(ThrownCoins x, int place, String text) {
        writeText(x, text);
        due("fault of '" + text + "'", x.fault(), place);
        due("fault again of '" + text + "'", x.fault(), place);
        if (place != NONE) {
            due("sunday of '" + text + "'", x.sunday(), NOT);
            due("bytes behind a refused sunday", x.count(6), text.length());
        }
        due("erase of '" + text + "'", x.erase(), text.length());
    }

    /** The call is answered so, and behind it everything answers as in a twin that was not asked. */
    static void leavesAll(String call, Supplier<ThrownCoins> house, long want, Call asked) {
        ThrownCoins x = house.get();
        due(call, asked.on(x), want);
        List<String> behind = new ArrayList<>();
        List<String> twins = new ArrayList<>();
        askAll(behind, x);
        askAll(twins, house.get());
        for (int i = 0; i < twins.size(); i++) {
            if (!behind.get(i).equals(twins.get(i))) {
                wrong++;
                System.out.println(sentence + ": behind " + call + " the answer is " + behind.get(i)
                        + ", of a twin " + twins.get(i));
                return;
            }
        }
    }

    /** Fewer than 400 calls: what stands, what is foretold of it, then what was kept, then what the text does. */
    private static void askAll(List<String> answers, ThrownCoins x) {
        askState(answers, x);
        askForetold(answers, x);
        for (int k = 1; k >= 0; k--) {
            answers.add("back(" + k + ") " + x.back(k));
            askState(answers, x);
        }
        answers.add("fault() " + x.fault());
        answers.add("sunday() " + x.sunday());
        answers.add("back(0) behind a text " + x.back(0));
        askState(answers, x);
        for (int t = 0; t < 25; t++) {
            answers.add("come(" + t + ") " + x.come(t));
        }
    }

    private static void askState(List<String> answers, ThrownCoins x) {
        for (int what = 0; what < 8; what++) {
            answers.add("count(" + what + ") " + x.count(what));
        }
        for (int kind = 0; kind < 6; kind++) {
            answers.add("coin(" + kind + ", 0) " + x.coin(kind, 0));
            answers.add("coin(" + kind + ", 1) " + x.coin(kind, 1));
        }
        for (int person = 0; person < 4; person++) {
            for (int kind = 0; kind < 6; kind++) {
                answers.add("purse(" + person + ", " + kind + ") " + x.purse(person, kind));
            }
            for (int what = 1; what < 4; what++) {
                answers.add("person(" + person + ", " + what + ") " + x.person(person, what));
            }
        }
    }

    private static void askForetold(List<String> answers, ThrownCoins x) {
        for (int person = 0; person < 4; person++) {
            answers.add("as(" + person + ", 0) " + x.as(person, 0));
            answers.add("plan(" + person + ", -1) " + x.plan(person, NONE));
            answers.add("plan(" + person + ", 0) " + x.plan(person, 0));
            answers.add("game(" + person + ") " + x.game(person));
            answers.add("choice(" + person + ") " + x.choice(person));
            answers.add("league(" + person + ", 3) " + x.league(person, 3));
            answers.add("mean(" + person + ", 5, 0) " + x.mean(person, 5, 0));
            answers.add("bait(" + person + ") " + x.bait(person));
            answers.add("lay(1" + person + ") " + x.lay(10 + person));
            answers.add("lay(2" + person + ") " + x.lay(20 + person));
        }
        answers.add("dry() " + x.dry());
        answers.add("lay(0) " + x.lay(0));
        answers.add("lay(1) " + x.lay(1));
    }
}
