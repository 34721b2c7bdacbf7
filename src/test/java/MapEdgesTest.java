/** Boundary cases of promises 2 and 3: letters, what becomes of them, and each FAULT of a MAP. */
public final class MapEdgesTest {
    private static final String[] FORMS = {"sccdd;", "kddd;", "lddd;", "xd;", "hc;"};
    private static final String[] SAMPLES = {"sab05;", "k010;", "l007;", "x0;", "hb;"};
    // Statements without fault in front of the one that is looked at.
    private static final String[] FRONTS = {"", "hb;", "scd11;x0;"};

    public static void main(String[] args) {
        letters();
        lettersThatCome();
        noStatement();
        everyWrongLetter();
        everyEnd();
        theLastLetters();
        corners();
        streetLengths();
        kinds();
        lengths();
        turnsOfMaps();
        room();
        theFirstFault();
        allOrNothing();
        Check.end("maps are as told at their edges");
    }

    private static void letters() {
        PostmanRounds x = new PostmanRounds();
        Check.says("A letter (0 .. 255) comes: how many there are");
        Check.due("letter(0)", x.letter(0), 1);
        Check.due("letter(255)", x.letter(255), 2);
        Check.says("-4; -6 (255; 96, too)");
        Check.due("letter(-1)", x.letter(-1), -4);
        Check.due("letter(256)", x.letter(256), -6);
        Check.due("letters", x.count(6), 2);
        for (int i = 3; i <= 96; i++) {
            Check.due("letter " + i, x.letter(59), i);
        }
        Check.due("letter 97", x.letter(59), -6);
        Check.due("letter 97 that is 256", x.letter(256), -6);
        Check.due("letter 97 that is -1", x.letter(-1), -4);
        Check.due("letters", x.count(6), 96);
        Check.refused(x, 0, 0, 0, 2, 3);
        Check.says("The letters become a MAP, and are no more");
        Check.due("map of letters 0, 255, ;", x.map(), -1000);
        Check.due("letters", x.count(6), 0);
        Check.due("a letter after that", x.letter(104), 1);
        Check.refused(x, 0, 0, 0, 2, 3);
    }

    private static void lettersThatCome() {
        Check.says("REFUSALS: nothing changes but how many there were");
        PostmanRounds x = new PostmanRounds();
        Check.letters(x, "sab05;");
        x.letter(-1);
        x.letter(256);
        Check.letters(x, "x0;".repeat(30));
        Check.due("letters", x.count(6), 96);
        x.letter('y');
        x.letter('y');
        Check.due("96 letters, refused ones among them", x.map(), 31);
        Check.due("closed thirty times", x.street(0, 5), 1);
        Check.refused(x, 0, 0, 0, 1, 3);
    }

    private static void noStatement() {
        Check.says("At least one STATEMENT");
        PostmanRounds x = new PostmanRounds();
        Check.due("a map of no letters", x.map(), -1000);
        Check.due("another one", x.map(), -1000);
        Check.says("the FAULT (nothing is counted)");
        Check.noneRefused(x);
        Check.says("how many STATEMENTS");
        Check.due("one", Check.tell(x, "hb;"), 1);
        Check.due("the same letters are no more", x.map(), -1000);
        Check.due("32 of 3 letters", Check.tell(x, "hc;".repeat(32)), 32);
    }

    private static boolean fits(char form, int letter) {
        if (form == 'c') {
            return letter >= 'a' && letter <= 'z';
        }
        return form == 'd' ? letter >= '0' && letter <= '9' : letter == form;
    }

    private static PostmanRounds oneStreet() {
        return Check.told("sef50;");
    }

    /** Each place of each statement with every letter there is: only what fits it lets a map go on. */
    private static void everyWrongLetter() {
        Check.says("kind 1 the place of the first letter with which no MAP can go on");
        for (String front : FRONTS) {
            for (int f = 0; f < FORMS.length; f++) {
                for (int place = 0; place < FORMS[f].length(); place++) {
                    for (int letter = 0; letter < 256; letter++) {
                        wrongLetter(front, f, place, (char) letter);
                    }
                }
            }
        }
    }

    private static void wrongLetter(String front, int f, int place, char letter) {
        String text = front + SAMPLES[f].substring(0, place) + letter + SAMPLES[f].substring(place + 1);
        boolean canGoOn = place == 0 ? "sklxh".indexOf(letter) >= 0 : fits(FORMS[f].charAt(place), letter);
        PostmanRounds x = oneStreet();
        int got = Check.tell(x, text);
        if (!canGoOn) {
            Check.due("letter " + (int) letter + " in " + text, got, -1000 - front.length() - place);
            Check.due("streets", x.count(0), 1);
            Check.due("letters", x.count(6), 0);
            Check.noneRefused(x);
        } else if (place > 0) {
            Check.due("letter " + (int) letter + " in " + text + " is no fault of kind 1", got > -1000 || got <= -2000 ? 1 : 0, 1);
        }
    }

    private static void everyEnd() {
        Check.says("(the end, if something lacks");
        for (String front : FRONTS) {
            for (String sample : SAMPLES) {
                for (int length = 1; length < sample.length(); length++) {
                    String text = front + sample.substring(0, length);
                    PostmanRounds x = oneStreet();
                    Check.due("the map " + text, Check.tell(x, text), -1000 - text.length());
                    Check.due("streets", x.count(0), 1);
                    Check.due("home", x.count(4), 0);
                    Check.due("letters", x.count(6), 0);
                }
            }
        }
    }

    private static void theLastLetters() {
        Check.says("A MAP is told in letters, one by one (96 at most)");
        PostmanRounds x = oneStreet();
        Check.due("a wrong letter at the last place", Check.tell(x, "x0;".repeat(31) + "x0x"), -1095);
        Check.due("the end behind the last place", Check.tell(x, "x0;".repeat(30) + "sab055"), -1095);
        Check.due("something lacks behind 96 letters", Check.tell(x, "ha;".repeat(29) + "k000;l001"), -1096);
        Check.due("the last statement of 96 letters", Check.tell(x, "x0;".repeat(31) + "x1;"), -2093);
        Check.due("95 letters", Check.tell(x, "x0;".repeat(31) + "x0"), -1095);
        Check.due("nothing of these came", x.count(1), 1);
        Check.due("96 letters of long statements", Check.tell(x, "sab05;".repeat(7) + "l001;".repeat(6)
                + "x0;".repeat(8)), 21);
        Check.due("streets", x.count(0), 8);
        Check.noneRefused(x);
    }

    private static void corners() {
        Check.says("no such CORNER; from a CORNER to itself");
        for (char from = 'a'; from <= 'z'; from++) {
            for (char to = 'a'; to <= 'z'; to++) {
                PostmanRounds x = oneStreet();
                boolean isGood = from <= 'f' && to <= 'f' && from != to;
                String text = "hc;s" + from + to + "09;";
                Check.due(text, Check.tell(x, text), isGood ? 2 : -2003);
                Check.due("streets", x.count(0), isGood ? 2 : 1);
                Check.due("home", x.count(4), isGood ? 2 : 0);
                if (isGood) {
                    Check.street(x, 1, from - 'a', to - 'a', 9, 0, 0, 1);
                }
            }
        }
        for (char home = 'a'; home <= 'z'; home++) {
            PostmanRounds x = oneStreet();
            boolean isGood = home <= 'f';
            Check.due("h" + home, Check.tell(x, "hc;h" + home + ";"), isGood ? 2 : -2003);
            Check.due("home", x.count(4), isGood ? home - 'a' : 0);
        }
    }

    private static String twoDigits(int number) {
        return "" + number / 10 + number % 10;
    }

    private static void streetLengths() {
        Check.says("2 digits (LENGTH): a STREET more; LENGTH 0");
        for (int length = 0; length <= 99; length++) {
            PostmanRounds x = oneStreet();
            Check.due("length " + length, Check.tell(x, "sfa" + twoDigits(length) + ";"), length == 0 ? -2000 : 1);
            Check.due("lengths together", x.count(3), 50 + length);
        }
    }

    private static void kinds() {
        Check.says("\"k\" a STREET, KIND, FIGURE (a digit each); no such STREET, KIND");
        for (int number = 0; number <= 999; number++) {
            int street = number / 100;
            int kind = number / 10 % 10;
            PostmanRounds x = Check.told("sef50;sab01;sbc01;");
            boolean isGood = street < 3 && kind < 6;
            Check.due("k" + number, Check.tell(x, "ha;k" + street + kind + number % 10 + ";"), isGood ? 2 : -2003);
            for (int other = 0; other < 3; other++) {
                boolean isIt = isGood && street == other;
                Check.due("kind of " + other, x.street(other, 3), isIt ? kind : 0);
                Check.due("figure of " + other, x.street(other, 4), isIt ? number % 10 : 0);
            }
        }
    }

    private static void lengths() {
        Check.says("\"l\" a STREET (a digit), 2 digits: its LENGTH; no such STREET; LENGTH 0");
        for (int number = 0; number <= 999; number++) {
            int street = number / 100;
            int length = number % 100;
            PostmanRounds x = Check.told("sef50;sab60;sbc70;");
            boolean isGood = street < 3 && length > 0;
            Check.due("l" + number, Check.tell(x, "ha;l" + street + twoDigits(length) + ";"), isGood ? 2 : -2003);
            for (int other = 0; other < 3; other++) {
                Check.due("length of " + other, x.street(other, 2), isGood && street == other ? length : 50 + 10 * other);
            }
        }
    }

    private static void turnsOfMaps() {
        Check.says("\"x\" a STREET (a digit): closed, or, told again, OPEN; no such STREET");
        for (int street = 0; street <= 9; street++) {
            PostmanRounds x = Check.told("sef50;sab60;sbc70;");
            Check.due("x" + street, Check.tell(x, "ha;x" + street + ";"), street < 3 ? 2 : -2003);
            Check.due("OPEN", x.count(1), street < 3 ? 7 & ~(1 << street) : 7);
            Check.due("x" + street + " again", Check.tell(x, "x" + street + ";"), street < 3 ? 1 : -2000);
            Check.due("OPEN", x.count(1), 7);
        }
        PostmanRounds none = new PostmanRounds();
        Check.due("x0 without streets", Check.tell(none, "x0;"), -2000);
        Check.due("a street that comes later", Check.tell(none, "x0;sab05;"), -2000);
        Check.due("a street that came just now", Check.tell(none, "sab05;x0;"), 2);
        Check.due("closed", none.street(0, 5), 0);
    }

    private static void room() {
        Check.says("no room");
        PostmanRounds x = new PostmanRounds();
        Check.due("nine at once", Check.tell(x, "sab01;".repeat(9)), -2048);
        Check.due("none came", x.count(0), 0);
        Check.due("eight at once", Check.tell(x, "sab01;".repeat(8)), 8);
        Check.due("streets", x.count(0), 8);
        Check.due("a ninth", Check.tell(x, "sab01;"), -2000);
        Check.due("the last one", Check.tell(x, "k753;l799;x7;"), 3);
        Check.street(x, 7, 0, 1, 99, 5, 3, 0);
        Check.due("one behind it", Check.tell(x, "x8;"), -2000);
        PostmanRounds y = Check.told("sab01;".repeat(7));
        Check.due("two where one has room", Check.tell(y, "hb;sab01;sab01;"), -2009);
        Check.due("streets", y.count(0), 7);
        Check.due("home", y.count(4), 0);
        Check.noneRefused(y);
    }

    private static void theFirstFault() {
        Check.says("else kind 2 the place of the first letter of the first STATEMENT that is not as it must be");
        PostmanRounds x = oneStreet();
        Check.due("two such", Check.tell(x, "hb;x9;hz;"), -2003);
        Check.due("a later one", Check.tell(x, "hb;x0;sab09;hz;"), -2012);
        Check.says("kind 1 ..; else kind 2");
        Check.due("kind 2, then kind 1", Check.tell(x, "x9;hz;k0;"), -1008);
        Check.due("kind 2, then something lacks", Check.tell(x, "saa00;h"), -1007);
        Check.due("kind 2 in the statement that has kind 1", Check.tell(x, "saa00"), -1005);
        Check.due("a ninth street, then kind 1", Check.tell(x, "sab05;".repeat(15) + "sab05"), -1095);
        Check.due("a corner g is no fault of kind 1", Check.tell(x, "hg"), -1002);
        Check.noneRefused(x);
    }

    private static void allOrNothing() {
        Check.says("Without FAULT all of it comes, with one nothing");
        String all = "sfa11;sbc22;k123;k049;l033;x1;hd;";
        String[] faults = {"x9;", "hz;", "saa01;", "l000;", "k060;", "y", "x"};
        int[] answers = {-2033, -2033, -2033, -2033, -2033, -1033, -1034};
        for (int i = 0; i < faults.length; i++) {
            PostmanRounds x = oneStreet();
            Check.row(x, 3, 4);
            x.image();
            Check.due(all + faults[i], Check.tell(x, all + faults[i]), answers[i]);
            Check.due("streets", x.count(0), 1);
            Check.due("home", x.count(4), 0);
            Check.street(x, 0, 4, 5, 50, 0, 0, 1);
            Check.due("row", x.count(5), 2);
            Check.due("letters", x.count(6), 0);
            Check.noneRefused(x);
        }
        PostmanRounds x = oneStreet();
        Check.due(all, Check.tell(x, all), 7);
        Check.due("streets", x.count(0), 3);
        Check.due("home", x.count(4), 3);
        Check.street(x, 0, 4, 5, 33, 4, 9, 1);
        Check.street(x, 1, 5, 0, 11, 2, 3, 0);
        Check.street(x, 2, 1, 2, 22, 0, 0, 1);
    }
}
