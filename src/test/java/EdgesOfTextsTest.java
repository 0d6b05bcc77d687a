/** What texts tell: each sentence that names a boundary, at the boundary and on either side of it. */
public final class EdgesOfTextsTest extends Asking {
    private static final String[] SIX = {"10", "20", "30", "40", "50", "60"};
    private static final String[] HABITS = {"never", "greedy", "waiting", "cheap"};
    private static final String NINE_COME = "come 0 1 2 3 0 1 2 3 0";

    /** Each form of a line, with all its tokens, and how many numbers more of its last kind may stand there. */
    private static final String[][] FORMS = {
        {"coins", "7"}, {"lies", "0", "3"}, {"purse", "3", "0", "3"}, {"never", "1"}, {"greedy", "1"},
        {"waiting", "1", "9"}, {"cheap", "1"}, {"come", "1"}, {"law", "1"}, {"alone"},
    };

    public static void main(String[] args) {
        atFirst();
        kinds();
        worths();
        risingWorths();
        amounts();
        amountsOfKinds();
        people();
        habitsAndBounds();
        laws();
        visits();
        visitsMore();
        bytesOfTheText();
        lines();
        eachByte();
        digits();
        blanks();
        endsTooSoon();
        tokensThatCannotStand();
        eachLetter();
        theFirstFault();
        doneInOrder();
        whatStays();
        behindThemAll();
        end("texts are read and done as due");
    }

    private static void atFirst() {
        sentence("at first one KIND of WORTH 1, nothing lies there, nobody has anything, NEVER, LAW 0, no VISITS");
        ThrownCoins x = new ThrownCoins();
        int[] counts = {1, 0, 0, 0, 0, 0, 0, 0};
        for (int what = 0; what < counts.length; what++) {
            due("count(" + what + ")", x.count(what), counts[what]);
        }
        due("coin(0, 0)", x.coin(0, 0), 1);
        due("coin(0, 1)", x.coin(0, 1), 0);
        due("coin(1, 0)", x.coin(1, 0), UNKNOWN);
        int[] answers = {0, 0, NONE, 0};
        for (int person = 0; person < 4; person++) {
            due("purse(" + person + ", 0)", x.purse(person, 0), 0);
            due("purse(" + person + ", 1)", x.purse(person, 1), UNKNOWN);
            for (int what = 0; what < 4; what++) {
                due("person(" + person + ", " + what + ")", x.person(person, what), answers[what]);
            }
        }
        due("come(0)", x.come(0), NONE);
    }

    private static void kinds() {
        sentence("COINS have KINDS 0 .. c less 1 (c 1 .. 6)");
        String line = "coins";
        for (int c = 1; c <= 6; c++) {
            line += " " + SIX[c - 1];
            ThrownCoins x = told("coins 1 2 3", line);
            due("kinds of " + line, x.count(0), c);
            for (int kind = 0; kind < c; kind++) {
                due("worth of " + kind, x.coin(kind, 0), 10 * kind + 10);
                due("purse of " + kind, x.purse(3, kind), 0);
            }
            due("kind " + c, x.coin(c, 0), UNKNOWN);
            due("kind " + c, x.purse(3, c), UNKNOWN);
            faultBehind(x, NONE, "lies " + (c - 1) + " 1");
            faultBehind(x, 5, "lies " + c + " 1");
            faultBehind(x, NONE, "purse 0 " + (c - 1) + " 1");
            faultBehind(x, 8, "purse 0 " + c + " 1");
        }
        sentence("coins: 1 to 6 WORTHS");
        faultAt(5, "coins");
        faultAt(6, "coins ");
        faultAt(5, "coins;");
        faultAt(NONE, "coins 10");
        faultAt(NONE, "coins 10 20 30 40 50");
        faultAt(NONE, "coins 10 20 30 40 50 60");
        faultAt(24, "coins 10 20 30 40 50 60 70");
        faultAt(24, "coins 10 20 30 40 50 60 1000");
        faultAt(24, "coins 10 20 30 40 50 60 x");
    }

    private static void worths() {
        sentence("a WORTH (1 .. 999)");
        String[] right = {"1", "2", "998", "999", "01", "001", "099"};
        for (String worth : right) {
            due("worth of coins " + worth, told("coins " + worth).coin(0, 0), Integer.parseInt(worth));
        }
        String[] wrong = {"0", "00", "000", "1000", "0001", "9999", "1001"};
        for (String worth : wrong) {
            faultAt(6, "coins " + worth);
            faultAt(8, "coins 1 " + worth);
        }
        due("the last", told("coins 1 2 3 4 5 999").coin(5, 0), 999);
        due("the last", told("coins 994 995 996 997 998 999").coin(0, 0), 994);
        faultAt(16, "coins 1 2 3 4 5 1000");
        faultAt(26, "coins 995 996 997 998 999 1000");
    }

    private static void risingWorths() {
        sentence("coins: each above the one ahead (else a FAULT at it)");
        for (int i = 1; i < 6; i++) {
            int place = 6 + 3 * i;
            for (int more = -2; more <= 2; more++) {
                String[] row = SIX.clone();
                row[i] = String.format("%02d", 10 * i + more);
                faultAt(more > 0 ? NONE : place, "coins " + String.join(" ", row));
            }
        }
        faultAt(8, "coins 1 001");
        faultAt(NONE, "coins 1 002");
        faultAt(10, "coins 999 999");
        faultAt(10, "coins 999 1");
        faultAt(NONE, "coins 5;coins 1");
        faultBehind(told("coins 5 6 7"), NONE, "coins 5");
        faultBehind(told("coins 5 6 7"), NONE, "coins 1 2");
    }

    private static void amounts() {
        sentence("lies, purse: N 0 .. 20");
        for (int n = 0; n <= 22; n++) {
            faultAt(n <= 20 ? NONE : 7, "lies 0 " + n);
            faultAt(n <= 20 ? NONE : 10, "purse 3 0 " + n);
        }
        int[] right = {0, 1, 19, 20};
        for (int n : right) {
            due("lies", told("lies 0 " + n).coin(0, 1), n);
            due("lies over others", told("lies 0 7", "lies 0 " + n).coin(0, 1), n);
            due("lies over others", told("lies 0 7;lies 0 " + n).count(1), n);
            due("purse", told("purse 3 0 " + n).purse(3, 0), n);
            due("purse over others", told("purse 3 0 7", "purse 3 0 " + n).purse(3, 0), n);
            due("purse over others", told("purse 3 0 7;purse 3 0 " + n).person(3, 0), n);
        }
        String[] wrong = {"100", "021", "999", "0020", "1000", "4294967297"};
        for (String n : wrong) {
            faultAt(7, "lies 0 " + n);
            faultAt(10, "purse 0 0 " + n);
        }
        faultAt(NONE, "lies 0 020;purse 0 0 020");
    }

    private static void amountsOfKinds() {
        sentence("In THE FOUNTAIN there lie so many of each, a PURSE has so many of each KIND");
        ThrownCoins x = told("coins 1 2 3 4 5 6;lies 0 1;lies 5 20;lies 2 7;purse 0 0 2;purse 0 5 20;purse 3 5 1;purse 2 3 9");
        int[] lies = {1, 0, 7, 0, 0, 20};
        int[][] purses = {{2, 0, 0, 0, 0, 20}, {0, 0, 0, 0, 0, 0}, {0, 0, 0, 9, 0, 0}, {0, 0, 0, 0, 0, 1}};
        for (int kind = 0; kind < 6; kind++) {
            due("coin(" + kind + ", 1)", x.coin(kind, 1), lies[kind]);
            for (int person = 0; person < 4; person++) {
                due("purse(" + person + ", " + kind + ")", x.purse(person, kind), purses[person][kind]);
            }
        }
        ThrownCoins full = told("coins 994 995 996 997 998 999", "lies 0 20;lies 1 20;lies 2 20;lies 3 20;lies 4 20;lies 5 20");
        due("all full", full.count(1), 20 * 5979);
        for (int person = 0; person < 4; person++) {
            String row = "";
            for (int kind = 0; kind < 6; kind++) {
                row += (kind == 0 ? "" : ";") + "purse " + person + " " + kind + " 20";
            }
            tell(full, row);
            due("a full purse", full.person(person, 0), 20 * 5979);
        }
        due("all there is", full.count(7), 5 * 20 * 5979);
        sentence("of a KIND that there is behind the LINES ahead");
        faultAt(NONE, "coins 1 2;lies 1 1;purse 0 1 1");
        faultAt(5, "lies 1 1;coins 1 2");
        faultAt(8, "purse 0 1 1;coins 1 2");
        faultAt(15, "coins 1 2;lies 2 1");
        faultAt(18, "coins 1 2;purse 0 2 1");
        faultAt(23, "coins 1 2;coins 1;lies 1 1");
        faultBehind(told("coins 1 2 3"), NONE, "lies 2 1;purse 0 2 1");
        faultBehind(told("coins 1 2 3"), 5, "lies 3 1");
        faultBehind(told("coins 1 2 3"), 13, "coins 1;lies 1 1");
        faultBehind(told("coins 1 2 3"), NONE, "coins 1;lies 0 1");
    }

    private static void people() {
        sentence("PEOPLE are 0 .. 3");
        String[][] lines = {
            {"purse ", " 0 1"}, {"never ", ""}, {"greedy ", ""}, {"waiting ", " 5"}, {"cheap ", ""}, {"come ", ""}, {"come 0 ", ""},
        };
        for (String[] line : lines) {
            for (int person = 0; person < 4; person++) {
                faultAt(NONE, line[0] + person + line[1]);
                faultAt(NONE, line[0] + "00" + person + line[1]);
            }
            String[] wrong = {"4", "5", "10", "30", "004", "999", "0003", "4294967296"};
            for (String person : wrong) {
                faultAt(line[0].length(), line[0] + person + line[1]);
            }
        }
        for (int person = 0; person < 4; person++) {
            ThrownCoins x = told("purse " + person + " 0 5;cheap " + person + ";come " + person);
            for (int other = 0; other < 4; other++) {
                due("purse", x.purse(other, 0), other == person ? 5 : 0);
                due("habit", x.person(other, 1), other == person ? 3 : 0);
                due("visits", x.person(other, 3), other == person ? 1 : 0);
            }
        }
    }

    private static void habitsAndBounds() {
        sentence("a HABIT: 0 NEVER (as at first), 1 GREEDY, 2 WAITING with a BOUND, 3 CHEAP");
        for (int habit = 0; habit < 4; habit++) {
            String line = HABITS[habit] + " 2" + (habit == 2 ? " 7" : "");
            for (int before = 0; before < 4; before++) {
                ThrownCoins x = told(HABITS[before] + " 2" + (before == 2 ? " 55" : ""), line);
                due(line, x.person(2, 1), habit);
                due("bound by " + line, x.person(2, 2), habit == 2 ? 7 : NONE);
            }
        }
        sentence("a BOUND (0 .. 99)");
        String[] right = {"0", "1", "98", "99", "000", "099"};
        for (String bound : right) {
            due("waiting 3 " + bound, told("waiting 3 " + bound).person(3, 2), Integer.parseInt(bound));
        }
        String[] wrong = {"100", "101", "999", "0099", "1000"};
        for (String bound : wrong) {
            faultAt(10, "waiting 3 " + bound);
        }
    }

    private static void laws() {
        sentence("LAW is 0 .. 3 (0 at first)");
        for (int law = 0; law < 4; law++) {
            due("law " + law, told("law " + law).count(2), law);
            due("law " + law, told("law " + (3 - law), "law " + law).count(2), law);
            due("law 00" + law, told("law 3;law 0" + law).count(2), law);
        }
        String[] wrong = {"4", "5", "10", "004", "999", "0000", "4294967296"};
        for (String law : wrong) {
            faultAt(4, "law " + law);
        }
    }

    private static void visits() {
        sentence("come: 1 to 9 VISITS more");
        String line = "come";
        faultAt(4, line);
        for (int i = 1; i <= 9; i++) {
            line += " " + i % 4;
            ThrownCoins x = told("come 3", line);
            due(line, x.count(3), 1 + i);
            due("the first", x.come(0), 3);
            due("the last", x.come(i), i % 4);
            due("no more", x.come(i + 1), NONE);
        }
        faultAt(line.length() + 1, line + " 2");
        faultAt(line.length() + 1, line + " 9");
        faultAt(line.length() + 1, line + " x");
        faultAt(NONE, line + ";come 2");
    }

    private static void visitsMore() {
        sentence("VISITS are a row of PEOPLE, 24 at most; a twenty-fifth cannot stand there (at its I)");
        ThrownCoins x = told(NINE_COME + ";" + NINE_COME + ";come 1 2 3 1 2");
        due("23 visits", x.count(3), 23);
        faultBehind(x, NONE, "come 3");
        faultBehind(x, 7, "come 3 2");
        faultBehind(x, 7, "come 3 9");
        faultBehind(x, 12, "come 3;come 2");
        faultBehind(x, 11, "come 3;come");
        tell(x, "come 3");
        due("24 visits", x.count(3), 24);
        due("the last", x.come(23), 3);
        due("no more", x.come(24), NONE);
        faultBehind(x, 5, "come 0");
        faultBehind(x, 5, "come 9");
        faultBehind(x, 4, "come");
        faultBehind(x, 4, "come;come 0");
        faultBehind(x, 5, "come x");
        faultBehind(x, 5, "come 0;alone");
        faultBehind(x, NONE, "alone;come 0");
        faultBehind(x, NONE, "alone;" + NINE_COME + ";" + NINE_COME + ";come 0 1 2 3 0 1");
        faultBehind(x, 6 + 46 + 17, "alone;" + NINE_COME + ";" + NINE_COME + ";come 0 1 2 3 0 1 2");
        due("still 24", x.count(3), 24);
        sentence("alone: no VISITS");
        due("go", x.go(5), 5);
        tell(x, "alone");
        due("none", x.count(3), 0);
        due("none have gone", x.count(4), 0);
        due("none comes", x.come(0), NONE);
        due("none is left", x.person(3, 3), 0);
        tell(x, "alone;come 2;alone;come 1 3");
        due("two behind it", x.count(3), 2);
        due("the first", x.come(0), 1);
    }

    private static void bytesOfTheText() {
        sentence("THE TEXT is a row of bytes, 200 at most");
        ThrownCoins x = new ThrownCoins();
        writeText(x, " ".repeat(194) + "alon");
        due("198", x.count(6), 198);
        due("three more", x.write(0x202065, 3), FULL);
        due("one more", x.write('e', 1), 199);
        due("two more", x.write(0x2020, 2), FULL);
        due("one more", x.write(' ', 1), 200);
        due("one more", x.write(' ', 1), FULL);
        due("200", x.count(6), 200);
        due("all are read", x.fault(), NONE);
        due("a line", x.sunday(), 1);
        due("none", x.count(6), 0);
        for (int n = 1; n <= 8; n++) {
            x = new ThrownCoins();
            writeText(x, " ".repeat(201 - n));
            due(n + " bytes, one too many", x.write(-1, n), FULL);
            due("erase", x.erase(), 201 - n);
            writeText(x, " ".repeat(200 - n));
            due(n + " bytes", x.write(0x2020202020202020L, n), 200);
            due("all are blanks", x.fault(), 200);
            due("no room", x.write(0, 1), FULL);
            due("erase", x.erase(), 200);
        }
        faultAt(199, "law 2" + " ".repeat(194) + "x");
        faultAt(200, "law 2" + " ".repeat(194) + ";");
    }

    private static void lines() {
        sentence("LINES with ; between, 1 to 10 (an empty TEXT ends too soon; behind the 10th no ; can stand)");
        faultAt(0, "");
        faultAt(1, " ");
        faultAt(200, " ".repeat(200));
        faultAt(0, ";");
        faultAt(2, "  ;");
        String text = "law 1";
        for (int n = 1; n <= 10; n++) {
            ThrownCoins x = new ThrownCoins();
            writeText(x, text);
            due(n + " lines", x.fault(), NONE);
            due(n + " lines", x.sunday(), n);
            faultAt(n < 10 ? text.length() + 1 : text.length(), text + ";");
            faultAt(n < 10 ? text.length() + 3 : text.length() + 1, text + " ; ");
            faultAt(n < 10 ? text.length() + 1 : text.length(), text + ";;");
            faultAt(n < 10 ? text.length() + 1 : text.length(), text + ";x");
            faultAt(n < 10 ? NONE : text.length(), text + ";alone");
            text += ";law 1";
        }
        faultAt(59, text);
        faultAt(1, " ;alone");
        faultAt(6, "alone;;alone");
    }

    /** What a byte does behind a word, behind a number, ahead of a word and ahead of a number. */
    private static void eachByte() {
        sentence("TOKENS are a row of small letters, a row of digits, any other byte; blanks (32)");
        for (int one = 0; one < 256; one++) {
            char c = (char) one;
            boolean letter = c >= 'a' && c <= 'z';
            boolean digit = c >= '0' && c <= '9';
            faultAt(letter ? 0 : c == ' ' ? NONE : c == ';' ? 6 : 5, "alone" + c);
            faultAt(digit ? 4 : c == ' ' ? NONE : c == ';' ? 6 : 5, "law 1" + c);
            faultAt(c == ' ' ? NONE : 0, c + "alone");
            faultAt(c == ' ' ? NONE : letter ? 0 : c >= '1' && c <= '9' ? 3 : c == '0' ? NONE : 3, "law" + c + "1");
        }
        faultAt(5, "alone\t");
        faultAt(0, "ALONE");
        faultAt(0, "alo ne");
        faultAt(0, "alon e");
        faultAt(0, "al0ne");
        faultAt(6, "law 1 1");
    }

    private static void digits() {
        sentence("numbers of 1 to 3 digits; a FAULT is at a number of more digits, also");
        faultAt(NONE, "lies 0 7;lies 00 07;lies 000 007");
        faultAt(NONE, "lies 0 0;lies 0 00;lies 0 000");
        String[] lines = {
            "coins ?", "lies ? 0", "lies 0 ?", "purse ? 0 0", "purse 0 ? 0", "purse 0 0 ?", "never ?", "greedy ?",
            "waiting ? 0", "waiting 0 ?", "cheap ?", "come ?", "come 0 ?", "law ?",
        };
        for (String line : lines) {
            int place = line.indexOf('?');
            String least = line.startsWith("coins") ? "1" : "0";
            faultAt(NONE, line.replace("?", least));
            faultAt(NONE, line.replace("?", "0" + least));
            faultAt(NONE, line.replace("?", "00" + least));
            faultAt(place, line.replace("?", "000" + least));
            faultAt(place, line.replace("?", "0000" + least));
            faultAt(place, line.replace("?", line.startsWith("coins") ? "1000" : "999"));
            // Wrapped around, 2 to the 32nd or 64th and so many would be in bounds again.
            faultAt(place, line.replace("?", "4294967297"));
            faultAt(place, line.replace("?", "18446744073709551617"));
            faultAt(place, line.replace("?", "0".repeat(150)));
        }
    }

    private static void blanks() {
        sentence("blanks may stand ahead of, between and behind TOKENS, none is needed but between two words, two numbers");
        String tight = "coins1 5;lies0 1;purse1 0 2;never1;greedy1;waiting2 9;cheap1;come0 1;law3;alone";
        faultAt(NONE, tight);
        faultAt(NONE, tight.replace(";", " ; "));
        faultAt(NONE, tight.replaceAll("([a-z])([0-9])", "$1   $2").replace(";", "   ;"));
        faultAt(NONE, "   " + tight);
        faultAt(NONE, tight + "   ");
        faultAt(NONE, "  lies  0  1  ;  law  1  ");
        faultAt(7, "lies 00");
        faultAt(10, "purse 0 00");
        faultAt(9, "purse 000");
        faultAt(5, "coins1002");
        faultAt(NONE, "coins1 002");
        faultAt(0, "alonelaw 1");
        faultAt(6, "alone law 1");
        faultAt(5, "law 1law 1");
        faultAt(6, "law 1 law 1");
    }

    private static void endsTooSoon() {
        sentence("a FAULT is at the end, if it comes too soon");
        for (String[] form : FORMS) {
            String text = "";
            for (int i = 0; i < form.length; i++) {
                faultAt(text.length(), text);
                faultAt(text.length() + 2, text + "  ");
                faultAt(6 + text.length(), "law 1;" + text);
                faultAt(text.length(), text + ";");
                faultAt(text.length(), text + ";alone");
                text += (i == 0 ? "" : " ") + form[i];
            }
            faultAt(NONE, text);
            faultAt(NONE, text + "  ");
            faultAt(text.length() + 1, text + ";");
            faultAt(text.length() + 3, text + ";  ");
            faultAt(NONE, text + ";alone");
        }
    }

    private static void tokensThatCannotStand() {
        sentence("a FAULT is at the first TOKEN that cannot stand there");
        for (String[] form : FORMS) {
            String text = "";
            for (int i = 0; i < form.length; i++) {
                String[] others = i == 0 ? new String[] {"1", ",", "x", "beggar", form[0] + "s", form[0].substring(1),
                    form[0].substring(0, form[0].length() - 1)} : new String[] {"-1", ",", "x", "law", "1000", ":", "/", "."};
                for (String other : others) {
                    faultAt(text.length(), text + other);
                    faultAt(6 + text.length(), "law 2;" + text + other);
                }
                text += form[i] + " ";
            }
            boolean more = form[0].equals("coins") || form[0].equals("come");
            faultAt(text.length(), text + "x");
            faultAt(text.length(), text + "alone");
            faultAt(text.length(), text + ",");
            faultAt(text.length(), text + "-");
            faultAt(more ? NONE : text.length(), text + (form[0].equals("come") ? "3" : "8"));
        }
    }

    private static void eachLetter() {
        sentence("each is one of: coins, lies, purse, never, greedy, waiting, cheap, come, law, alone");
        for (String[] form : FORMS) {
            String line = String.join(" ", form);
            for (int i = 0; i < form[0].length(); i++) {
                for (int step = -1; step <= 1; step += 2) {
                    faultAt(0, line.substring(0, i) + (char) (line.charAt(i) + step) + line.substring(i + 1));
                }
            }
        }
    }

    private static void theFirstFault() {
        sentence("read to their first fault; the place of the FAULT; NONE");
        faultAt(4, "law 4;law 5");
        faultAt(6, "alone;x;law 4");
        faultAt(10, "law 1;law 4");
        faultAt(5, "lies 1 21");
        faultAt(6, "purse 4 1 21");
        faultAt(8, "waiting 4 100");
        faultAt(0, "x law 4");
        faultAt(8, "coins 5 4 3");
        ThrownCoins x = new ThrownCoins();
        writeText(x, "law 4");
        due("fault", x.fault(), 4);
        writeFrom(x, 5, ";law 1");
        due("what comes behind mends nothing", x.fault(), 4);
        due("erase", x.erase(), 11);
        writeText(x, "law");
        due("fault at the end", x.fault(), 3);
        writeFrom(x, 3, " 1");
        due("what was missing has come", x.fault(), NONE);
        writeFrom(x, 5, "1");
        due("11 is no law", x.fault(), 4);
    }

    private static void writeFrom(ThrownCoins x, int had, String more) {
        for (int i = 0; i < more.length(); i++) {
            due("write of '" + more.charAt(i) + "'", x.write(more.charAt(i), 1), had + i + 1);
        }
    }

    private static void doneInOrder() {
        sentence("LINES are done in their order");
        ThrownCoins x = told("lies 0 5;coins 2 3;lies 1 4;purse 0 0 3;lies 1 6");
        due("nothing lies there behind coins", x.coin(0, 1), 0);
        due("the last word counts", x.coin(1, 1), 6);
        tell(x, "law 1;law 2;greedy 0;cheap 0;waiting 1 5;waiting 1 8;come 0;alone;come 1");
        due("law", x.count(2), 2);
        due("habit", x.person(0, 1), 3);
        due("bound", x.person(1, 2), 8);
        due("one visit", x.count(3), 1);
        due("of 1", x.come(0), 1);
        sentence("coins: nothing lies there, PURSES are empty");
        x = told("coins 1 2;lies 0 1;lies 1 2;purse 0 0 1;purse 1 1 2;purse 2 0 3;purse 3 1 4");
        due("all there is", x.count(7), 1 + 4 + 1 + 4 + 3 + 8);
        tell(x, "coins 1 2");
        due("nothing", x.count(7), 0);
        for (int person = 0; person < 4; person++) {
            due("an empty purse", x.person(person, 0), 0);
        }
        tell(x, "lies 1 1;purse 3 1 1;coins 7 8 9;purse 0 2 1");
        due("nothing but what is told behind it", x.count(7), 9);
    }

    private static void whatStays() {
        sentence("what earlier texts told stays");
        String[] later = {"lies 0 1", "purse 1 1 2", "never 0", "greedy 0", "waiting 0 4", "cheap 0", "come 3", "law 2", "alone"};
        for (String line : later) {
            ThrownCoins x = told("coins 3 5;lies 0 1;lies 1 4;purse 1 1 2;purse 3 0 6;waiting 1 8;greedy 3;come 2 1;law 1", line);
            due("kinds behind " + line, x.count(0), 2);
            due("lies behind " + line, x.count(1), 3 + 20);
            due("law behind " + line, x.count(2), line.equals("law 2") ? 2 : 1);
            due("visits behind " + line, x.count(3), line.equals("alone") ? 0 : line.equals("come 3") ? 3 : 2);
            due("purse behind " + line, x.person(1, 0), 10);
            due("purse behind " + line, x.person(3, 0), 18);
            due("bound behind " + line, x.person(1, 2), 8);
            due("habit behind " + line, x.person(3, 1), 1);
        }
        ThrownCoins x = told("coins 3 5;lies 1 4;waiting 1 8;come 2 1;law 1", "coins 9");
        due("law behind coins", x.count(2), 1);
        due("visits behind coins", x.count(3), 2);
        due("bound behind coins", x.person(1, 2), 8);
    }

    private static void behindThemAll() {
        sentence("Behind them all lies there and is had as told, no VISIT has gone, no NOTES are told, nothing is kept");
        String[] later = {"law 0", "come 1", "greedy 0", "lies 1 2", "purse 1 1 1", "never 3;law 0"};
        for (String line : later) {
            ThrownCoins x = told("coins 1 5;lies 0 9;lies 1 2;purse 0 1 2;purse 1 1 1;greedy 0;come 0 1 0");
            due("visit", x.visit(1), 100004);
            due("keep", x.keep(0), 1);
            due("keep", x.keep(1), 1);
            due("visit", x.visit(1), 99995);
            due("note", x.note(1, 9), 1);
            tell(x, line);
            due("ones behind " + line, x.coin(0, 1), 9);
            due("fives behind " + line, x.coin(1, 1), 2);
            due("purse behind " + line, x.person(0, 0), 10);
            due("purse behind " + line, x.person(1, 0), 5);
            due("gone behind " + line, x.count(4), 0);
            due("left behind " + line, x.person(0, 3), 2);
            due("notes behind " + line, x.count(5), 0);
            due("bytes behind " + line, x.count(6), 0);
            due("kept behind " + line, x.back(0), NOT);
            due("kept behind " + line, x.back(1), NOT);
            due("notes are none", x.lay(0), 16);
        }
    }
}
