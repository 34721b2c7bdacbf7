/** Boundary cases of promises 13 to 17, 24 to 27 and 30 to 35: rounds, times, what would be, odds, rows, lots. */
public final class RoundEdgesTest {
    private static final int[][] PACES = {{1, 1}, {3, 7}, {7, 3}, {-3, 7}, {3, -7}, {-3, -7}, {1, 3}, {1, 10}, {1, Check.MAX},
        {1, Check.MIN}, {Check.MAX, 1}, {Check.MIN, 1}, {Check.MIN, Check.MIN}, {Check.MAX, Check.MIN}, {16777216, 5},
        {16777217, 5}, {5, 16777217}, {0, 5}, {0, -5}, {0, Check.MIN}, {5, 0}, {-5, 0}, {Check.MAX, 0}, {0, 0}};

    public static void main(String[] args) {
        noneDue();
        noRound();
        longRound();
        roundsAlike();
        roundOfEachChange();
        again();
        steps();
        times();
        timesWithoutSteps();
        ranks();
        means();
        loose();
        without();
        turned();
        worst();
        lost();
        lostOfEight();
        lostRefused();
        whatIs();
        whatIsNone();
        rows();
        judged();
        lots();
        lotsOfNone();
        Check.end("rounds are as told at their edges");
    }

    private static void noneDue() {
        Check.says("(no STEPS, if none is)");
        String[] maps = {"hc;", "sab05;k050;", "sab05;x0;", "sab05;x0;hf;", "sab05;sbc05;k050;k151;x1;hf;"};
        for (String map : maps) {
            PostmanRounds x = Check.told(map);
            for (int what = 0; what <= 3; what++) {
                Check.due(map + " round(" + what + ")", x.round(what), 0);
            }
            Check.due(map + " step(0, 0)", x.step(0, 0), -1);
            Check.due(map + " loose(0)", x.loose(0), 0);
            Check.due(map + " loose(1)", x.loose(1), x.count(4));
            Check.due(map + " worst", x.worst(), -9);
            Check.due(map + " a row with its home", x.row(x.count(4)), 1);
            Check.due(map + " judge", x.judge(), -9);
        }
    }

    private static void noRound() {
        Check.says("There may be none; -9 there is none. -2");
        String[] maps = {"sab05;hc;", "sab05;k010;", "sba05;k030;", "sab05;scd05;", "sab05;sbc05;x0;", "sab05;sbc05;sca05;k010;k110;"
                + "x2;"};
        for (String map : maps) {
            PostmanRounds x = Check.told(map);
            for (int what = 0; what <= 3; what++) {
                Check.due(map + " round(" + what + ")", x.round(what), -9);
            }
            Check.noneRefused(x);
            Check.due(map + " round(4)", x.round(4), -2);
            Check.due(map + " round(-1)", x.round(-1), -2);
            Check.says("-1 (there is none, too); -2");
            Check.due(map + " step(0, 0)", x.step(0, 0), -1);
            Check.due(map + " step(0, 5)", x.step(0, 5), -1);
            Check.refused(x, 2, 2, 0, 0, 0);
            Check.says("without a ROUND that of -1.0f");
            Check.due(map + " time", x.time(1, 1), Float.floatToIntBits(-1.0f));
            Check.due(map + " time by no pace", x.time(0, 0), Float.floatToIntBits(-1.0f));
            Check.says("Refused -100003 (there is no ROUND)");
            Check.due(map + " rank", x.rank(0, 0, 0, 0), -100003);
            Check.refused(x, 2, 2, 1, 0, 0);
        }
    }

    private static void longRound() {
        Check.says("walks each STREET that is DUE at least once, with the least COST");
        PostmanRounds x = Check.told("sab01;sbc01;scd01;sde01;sea01;sea01;sea01;sea01;"
                + "k010;k110;k210;k310;");
        Check.tell(x, "k410;k510;k610;k710;");
        Check.walked(x, 0, 1, 2, 3, 4, 0, 1, 2, 3, 5, 0, 1, 2, 3, 6, 0, 1, 2, 3, 7);
        Check.due("COST", x.round(0), 20);
        Check.due("AGAIN", x.round(2), 12);
        Check.due("COST of these", x.round(3), 12);
        int[] corners = {0, 1, 2, 3, 4};
        for (int i = 0; i <= 20; i++) {
            x.row(corners[i % 5]);
        }
        Check.due("all its corners", x.judge(), -9);
        PostmanRounds y = Check.told("sba99;scb99;sdc99;sed99;sfe99;k049;k149;k249;k349;k449;");
        Check.due("there and back by SLOW ones", y.round(0), 1080 + 990);
        Check.due("AGAIN, ON", y.round(3), 990);
    }

    private static void roundsAlike() {
        Check.says("of several the one whose first STEP is the least STREET (of both ways ON), of these by the second, and so on");
        Check.walked(Check.told("sab01;sab01;"), 0, 1);
        Check.walked(Check.told("sba01;sab01;"), 0, 1);
        Check.walked(Check.told("sca01;sbc01;sab01;"), 0, 1, 2);
        Check.walked(Check.told("sab01;sab01;sab01;sab01;"), 0, 1, 2, 3);
        Check.walked(Check.told("sab01;sac01;"), 0, 0, 1, 1);
        Check.walked(Check.told("sac01;sab01;sbd01;sbd01;"), 0, 0, 1, 2, 3, 1);
        // At b street 1 leads on, street 2 home; both orders cost as much.
        Check.walked(Check.told("sab01;sbc01;sba01;sbc01;"), 0, 1, 3, 2);
        // Three alike: one is walked again, the least one at once.
        Check.walked(Check.told("sab01;sab01;sab01;"), 0, 0, 1, 2);
        Check.says("with the least COST");
        Check.walked(Check.told("sab02;sab01;sab02;"), 0, 1, 1, 2);
    }

    /** Asked before and after a change of one thing alone, the round is that of what is now. */
    private static void roundOfEachChange() {
        Check.says("THE ROUND: a WAY from HOME to HOME that walks each STREET that is DUE");
        PostmanRounds x = new PostmanRounds();
        x.image();
        int[][] streets = {{0, 1, 5}, {2, 1, 5}, {0, 1, 5}, {0, 2, 5}, {0, 1, 5}, {0, 1, 6}, {0, 1, 5}, {1, 0, 5}};
        int[] costs = {10, -9, 10, 10, 10, 12, 10, 10};
        int[] comesTo = {1, -1, 1, 2, 1, 1, 1, 1};
        int[] back = {0, -1, 0, 0, 0, 0, 0, 1};
        for (int i = 0; i < streets.length; i++) {
            x.on();
            x.streets(streets[i][0], streets[i][1], streets[i][2]);
            Check.due("COST of town " + i, x.round(0), costs[i]);
            Check.due("where its first step comes to", x.step(0, 2), comesTo[i]);
            Check.due("whether it is BACK", x.step(0, 1), back[i]);
        }
        int[][] kinds = {{2, 1}, {2, 2}, {2, 3}, {4, 3}, {0, 3}, {1, 3}, {0, 3}, {5, 3}, {0, 0}};
        int[] costsOfKinds = {11, 12, 13, 26, 10, -9, 10, 0, 10};
        for (int i = 0; i < kinds.length; i++) {
            x.kind(0, kinds[i][0], kinds[i][1]);
            Check.due("COST by kind " + kinds[i][0] + " with " + kinds[i][1], x.round(0), costsOfKinds[i]);
        }
        x.turns(0);
        Check.due("COST, if it is closed", x.round(0), 0);
        x.turns(0);
        Check.due("COST, if it is OPEN", x.round(0), 10);
        x.home(4);
        Check.due("COST from e", x.round(0), -9);
        x.home(1);
        Check.due("COST from b", x.round(0), 10);
        x.length(0, 99);
        Check.due("COST with another LENGTH", x.round(0), 198);
        x.streets(1, 0, 1);
        Check.due("COST with a STREET more", x.round(0), 100);
    }

    private static void again() {
        Check.says("AGAIN: STEPS of THE ROUND by a STREET that isn't DUE, or was walked ahead of that");
        PostmanRounds x = Check.told("sab05;sbc06;k050;");
        // By the park, there and back: it is AGAIN at once, street 1 only when it is walked back.
        int[] wanted = {1, 0, 1, 1};
        Check.walked(x, 0, 1, 1, 0);
        for (int i = 0; i < wanted.length; i++) {
            Check.due("step(" + i + ", 3)", x.step(i, 3), wanted[i]);
        }
        Check.due("AGAIN", x.round(2), 3);
        Check.due("COST of these", x.round(3), 16);
        PostmanRounds y = Check.told("sab05;sba06;");
        Check.due("none AGAIN", y.round(2), 0);
        Check.due("COST of none", y.round(3), 0);
    }

    private static void steps() {
        Check.says("Its i-th STEP: 0 the STREET, 1 1 BACK, 0, 2 the CORNER it comes to, 3 1 AGAIN, 0, 4 COST of it. -1; -2");
        PostmanRounds x = Check.told("sba05;k024;hf;ha;");
        int[][] wanted = {{0, 1, 1, 0, 9}, {0, 0, 0, 1, 5}};
        for (int i = 0; i < 2; i++) {
            for (int what = 0; what <= 4; what++) {
                Check.due("step(" + i + ", " + what + ")", x.step(i, what), wanted[i][what]);
            }
        }
        Check.due("behind the last", x.step(2, 0), -1);
        Check.due("ahead of the first", x.step(-1, 0), -1);
        Check.due("behind the last, what 5", x.step(2, 5), -1);
        Check.due("what 5", x.step(1, 5), -2);
        Check.due("what -1", x.step(0, -1), -2);
        Check.refused(x, 3, 2, 0, 0, 0);
    }

    private static int[] costsOfSteps(PostmanRounds x) {
        int[] costs = new int[x.round(1)];
        for (int i = 0; i < costs.length; i++) {
            costs[i] = x.step(i, 4);
        }
        return costs;
    }

    /** As the document tells it, with Java's own floats. */
    private static float time(int[] costs, int[] pace) {
        float by = (float) pace[0] / (float) pace[1];
        float time = 0.0f;
        for (int cost : costs) {
            time += (float) cost / by;
        }
        return time;
    }

    private static void times() {
        Check.says("0.0f, and for each STEP one behind the other more: the STEP's COST as a float by PACE");
        int differing = 0;
        for (String map : new String[] {"sab05;", "sab01;", "sab05;sbc07;sca09;", "sba99;scb99;sdc99;sed99;k049;k149;k249;k349;"}) {
            PostmanRounds x = Check.told(map);
            int[] costs = costsOfSteps(x);
            for (int[] pace : PACES) {
                int want = Float.floatToIntBits(time(costs, pace));
                Check.due(map + " time by " + pace[0] + " by " + pace[1], x.time(pace[0], pace[1]), want);
                float atOnce = x.round(0) / ((float) pace[0] / (float) pace[1]);
                differing += Float.floatToIntBits(atOnce) == want ? 0 : 1;
            }
            Check.noneRefused(x);
        }
        Check.due("some of these differ from all the COST at once", differing > 2 ? 1 : 0, 1);
        PostmanRounds x = Check.told("sab05;");
        Check.says("num as a float by den as a float (both ints)");
        Check.due("16777217 is no float", x.time(16777217, 1), x.time(16777216, 1));
        Check.due("nor below the line", x.time(1, 16777217), x.time(1, 16777216));
        Check.due("nor is the greatest int", x.time(Check.MAX, 7), x.time(Check.MIN, -7));
        Check.due("endless", x.time(0, 1), 0x7f800000);
        Check.due("endless below 0", x.time(0, -1), 0xff800000);
        Check.due("by an endless pace", x.time(1, 0), 0);
        Check.due("by an endless pace below 0", x.time(-1, 0), 0);
        Check.due("no number", x.time(0, 0), 0x7fc00000);
    }

    private static void timesWithoutSteps() {
        Check.says("TIME of THE ROUND: a float, 0.0f");
        PostmanRounds x = Check.told("sab05;k050;");
        for (int[] pace : PACES) {
            Check.due("time by " + pace[0] + " by " + pace[1], x.time(pace[0], pace[1]), 0);
            Check.due("rank", x.rank(pace[0], pace[1], 0, 0), 0);
        }
        Check.noneRefused(x);
    }

    private static void ranks() {
        Check.says("RANK of TIMES: as Float.compare has it; -1, 0, 1");
        String ring = "sab05;sbc07;sca09;";
        int[] costs = {5, 7, 9};
        for (int[] one : PACES) {
            PostmanRounds x = Check.told(ring);
            for (int[] other : PACES) {
                Check.due("rank of " + one[0] + " by " + one[1] + " to " + other[0] + " by " + other[1],
                        x.rank(one[0], one[1], other[0], other[1]), Float.compare(time(costs, one), time(costs, other)));
            }
        }
        PostmanRounds y = Check.told(ring);
        Check.due("no number to no number", y.rank(0, 0, 0, 0), 0);
        Check.due("no number is above endless", y.rank(0, 0, 0, 1), 1);
        Check.due("endless is below no number", y.rank(0, 1, 0, 0), -1);
        Check.due("0 and 0, whatever the sign of the pace", y.rank(1, 0, -1, 0), 0);
        Check.due("endless below 0 is the least", y.rank(0, -1, Check.MIN, Check.MAX), -1);
        Check.noneRefused(y);
    }

    private static void means() {
        Check.says("LENGTHS of all STREETS that are OPEN, as doubles by how many: doubleToLongBits; 0 there are none");
        PostmanRounds x = new PostmanRounds();
        Check.due("no streets", x.mean(), 0L);
        int[] lengths = {1, 99, 98, 97, 50, 1, 2, 99};
        int sum = 0;
        for (int i = 0; i < lengths.length; i++) {
            x.streets(0, 1, lengths[i]);
            sum += lengths[i];
            Check.due("of " + (i + 1), x.mean(), Double.doubleToLongBits((double) sum / (i + 1)));
        }
        x.kind(0, 5, 9);
        x.kind(1, 4, 9);
        Check.due("whatever their kind", x.mean(), Double.doubleToLongBits(sum / 8.0));
        for (int i = 0; i < lengths.length; i++) {
            x.turns(i);
            sum -= lengths[i];
            Check.due("without " + (i + 1), x.mean(), i == 7 ? 0L : Double.doubleToLongBits((double) sum / (7 - i)));
        }
        Check.noneRefused(x);
    }

    private static void loose() {
        Check.says("wherever it ends: that, and where it ends (the least CORNER); -9");
        PostmanRounds ring = Check.told("sbc05;sab05;sca05;");
        Check.due("a ring ends at home", ring.loose(0), 15);
        Check.due("which is a", ring.loose(1), 0);
        PostmanRounds star = Check.told("sfe05;sfd05;sfb05;hf;");
        Check.due("all but the last there and back", star.loose(0), 25);
        Check.due("the least of three ends", star.loose(1), 1);
        star.length(0, 6);
        Check.due("the longest is the last", star.loose(1), 4);
        Check.due("and saves more", star.loose(0), 26);
        PostmanRounds oneway = Check.told("sab05;sbc05;k010;k130;");
        Check.due("no round", oneway.round(0), -9);
        Check.due("but a way out", oneway.loose(0), 10);
        Check.due("to c", oneway.loose(1), 2);
        oneway.home(1);
        Check.due("street 0 can't be walked from b", oneway.loose(0), -9);
        Check.due("so it ends nowhere", oneway.loose(1), -9);
        Check.noneRefused(oneway);
        Check.due("what 2", oneway.loose(2), -2);
        Check.due("what -1", oneway.loose(-1), -2);
        Check.refused(oneway, 0, 2, 0, 0, 0);
        PostmanRounds park = Check.told("sab05;sbc05;k050;");
        Check.due("by a park", park.loose(0), 10);
        Check.due("steep BACK", Check.told("sba05;k029;").loose(0), 14);
    }

    private static void without() {
        Check.says("WITHOUT a STREET (closed, or closed already): COST of THE ROUND; -9. -1");
        PostmanRounds x = Check.told("sab05;");
        Check.due("without the only one none is DUE", x.without(0), 0);
        Check.due("it stays OPEN", x.street(0, 5), 1);
        x.turns(0);
        Check.due("closed already", x.without(0), 0);
        Check.due("it stays closed", x.street(0, 5), 0);
        PostmanRounds y = Check.told("sab05;sbc05;k050;sac01;x2;");
        Check.due("by the park", y.round(0), 20);
        Check.due("without the park c can't be come to", y.without(0), -9);
        Check.due("without street 1 none is DUE", y.without(1), 0);
        Check.due("without the closed one all is as it is", y.without(2), 20);
        Check.due("without(3)", y.without(3), -1);
        Check.due("without(-1)", y.without(-1), -1);
        Check.refused(y, 2, 0, 0, 0, 0);
        PostmanRounds z = Check.told("sab05;scd05;");
        Check.due("no round as it is", z.round(0), -9);
        Check.due("but without street 1", z.without(1), 10);
    }

    private static void turned() {
        Check.says("TURNED: its CORNERS changed over: COST of THE ROUND; -9. -1");
        PostmanRounds x = Check.told("sab05;sbc05;sca05;k010;k110;k219;");
        Check.due("three ONEWAYS about", x.round(0), 15);
        for (int street = 0; street < 3; street++) {
            Check.due("turned(" + street + ")", x.turned(street), -9);
            Check.due("its first corner stays", x.street(street, 0), street);
        }
        x.turns(1);
        Check.due("no round without street 1", x.turned(1), -9);
        x.turns(0);
        x.turns(2);
        Check.due("a closed one, if none is DUE", x.turned(2), 0);
        PostmanRounds y = Check.told("sba05;sbc05;sca05;k010;k110;k210;");
        Check.due("none, as street 0 leads from b", y.round(0), -9);
        Check.due("turned it leads on", y.turned(0), 15);
        Check.due("turned(3)", y.turned(3), -1);
        Check.due("turned(-1)", y.turned(-1), -1);
        Check.refused(y, 2, 0, 0, 0, 0);
        PostmanRounds z = Check.told("sab05;k049;");
        Check.due("SLOW there and back", z.turned(0), 10 + 28);
    }

    private static void worst() {
        Check.says("the STREET that is DUE WITHOUT which COST of THE ROUND is greatest (none: 10000), of several the least; -9");
        PostmanRounds x = Check.told("sab99;".repeat(5) + "sbc01;sbc01;scd01;");
        // Without a street to b one of the other four is no more walked twice.
        Check.due("without street 7 it costs less, without 5 more than without 0", x.worst(), 5);
        PostmanRounds y = Check.told("sab05;sbc01;");
        Check.due("without street 0 there is none: 10000", y.worst(), 0);
        y.home(2);
        Check.due("from c it is street 1", y.worst(), 1);
        y.home(5);
        Check.due("none without either: the least", y.worst(), 0);
        y.kind(0, 5, 0);
        Check.due("a park is not DUE", y.worst(), 1);
        y.turns(1);
        Check.due("none is DUE", y.worst(), -9);
        PostmanRounds z = Check.told("sab05;scd05;");
        Check.due("none without 0, 10 without 1", z.worst(), 0);
        Check.due("0 is greater than nothing", Check.told("sab05;").worst(), 0);
        Check.due("the last street", Check.told("sab01;".repeat(7) + "sab01;k050;k150;k250;k350;k450;k550;k650;").worst(), 7);
        Check.noneRefused(z);
    }

    private static void lostAs(PostmanRounds x, int n, int t, long above, long below) {
        Check.due("lost(" + n + ", " + t + ", 0)", x.lost(n, t, 0), above);
        Check.due("lost(" + n + ", " + t + ", 1)", x.lost(n, t, 1), below);
    }

    private static void lost() {
        Check.says("how likely there is a ROUND with a COST of n at most: a fraction in least terms (0 by 1, if never)");
        PostmanRounds x = Check.told("sab01;".repeat(6));
        // k that are left cost k, or 1 more if k is odd.
        lostAs(x, 0, 2, 1, 64);
        lostAs(x, 1, 2, 1, 64);
        lostAs(x, 2, 2, 11, 32);
        lostAs(x, 3, 2, 11, 32);
        lostAs(x, 5, 2, 57, 64);
        lostAs(x, 6, 2, 1, 1);
        lostAs(x, 0, 20, 1, 64000000);
        // Not if 5 or 6 are left: 64000000 less 6 times 19 to the 5th less 19 to the 6th is 2097525.
        lostAs(x, 5, 20, 83901, 2560000);
        lostAs(x, 9999, 20, 1, 1);
        Check.due("all stay OPEN", x.count(1), 63);
        Check.says("each of 0 .. 5 that are OPEN");
        x.turns(0);
        lostAs(x, 0, 2, 1, 32);
        x.kind(1, 5, 0);
        lostAs(x, 0, 2, 1, 16);
        PostmanRounds y = Check.told("sab05;sbc05;k050;");
        // A park is lost, too: then c can't be come to, unless street 1 is lost.
        lostAs(y, 9999, 3, 7, 9);
        lostAs(y, 19, 3, 1, 3);
        lostAs(y, 20, 3, 7, 9);
        Check.noneRefused(y);
        lostAs(Check.told("hf;"), 0, 2, 1, 1);
        lostAs(Check.told("sab05;x0;"), 0, 20, 1, 1);
        lostAs(Check.told("sab05;hf;"), 9999, 20, 1, 20);
    }

    private static void lostOfEight() {
        Check.says("LOST STREETS: each of 0 .. 5");
        PostmanRounds x = Check.told("sab01;".repeat(8));
        lostAs(x, 1, 2, 0, 1);
        lostAs(x, 2, 2, 1, 64);
        lostAs(x, 7, 20, 83901, 2560000);
        lostAs(x, 8, 20, 1, 1);
        PostmanRounds y = Check.told("sab01;".repeat(6) + "scd01;");
        lostAs(y, 9999, 2, 0, 1);
        lostAs(y, 0, 20, 0, 1);
        Check.noneRefused(y);
    }

    private static void lostRefused() {
        Check.says("-4 (n; t below 2); -6 (9999; 20); -2");
        PostmanRounds x = Check.told("sab05;");
        long below = Check.LONG_REFUSED + 4;
        long room = Check.LONG_REFUSED + 6;
        long other = Check.LONG_REFUSED + 2;
        Check.due("n -1", x.lost(-1, 2, 0), below);
        Check.due("t 1", x.lost(0, 1, 0), below);
        Check.due("n -1, t 21", x.lost(-1, 21, 2), below);
        Check.due("n 10000, t 1", x.lost(10000, 1, 2), below);
        Check.due("n 10000", x.lost(10000, 2, 2), room);
        Check.due("t 21", x.lost(0, 21, -1), room);
        Check.due("part 2", x.lost(9999, 20, 2), other);
        Check.due("part -1", x.lost(0, 2, -1), other);
        Check.refused(x, 0, 2, 0, 4, 2);
    }

    private static void whatIs() {
        Check.says("a ROW tells CORNERS of THE ROUND, one by one from HOME on: KINDS (bits) by which it begins so; FIGURES");
        // About by b street 0 is walked BACK, about by c street 1 is.
        PostmanRounds x = Check.told("sba05;sbc05;sca05;k026;k124;");
        Check.due("an empty row: kinds", x.whatIs(0, 0), 63);
        Check.due("an empty row: figures", x.whatIs(0, 1), 1023);
        x.row(0);
        Check.due("home alone: kinds", x.whatIs(0, 0), 63);
        x.row(1);
        Check.due("by b: kinds", x.whatIs(0, 0), 0b100001);
        Check.due("by b: figures to 4, as 4 costs as much", x.whatIs(0, 1), 0b0000011111);
        Check.row(x, 2, 0);
        Check.due("by b, whole: kinds", x.whatIs(0, 0), 0b100001);
        Check.due("by b, whole: figures", x.whatIs(0, 1), 0b0000011111);
        x.row(0);
        Check.due("one too much: kinds", x.whatIs(0, 0), 0);
        Check.due("one too much: figures", x.whatIs(0, 1), 0);
        Check.says("(it stays)");
        Check.due("row", x.clear(), 5);
        Check.row(x, 0, 2);
        Check.due("by c: kinds", x.whatIs(0, 0), 0b011110);
        Check.due("by c: figures from 5 on", x.whatIs(0, 1), 0b1111100000);
        Check.street(x, 0, 1, 0, 5, 2, 6, 1);
        x.clear();
        Check.row(x, 1);
        Check.due("not from home", x.whatIs(0, 0), 0);
        x.clear();
        Check.row(x, 0, 6);
        Check.due("no corner", x.whatIs(0, 1), 0);
        Check.noneRefused(x);
        Check.says("-1; -2");
        Check.due("street 3, what 2", x.whatIs(3, 2), -1);
        Check.due("street -1", x.whatIs(-1, 0), -1);
        Check.due("what 2", x.whatIs(2, 2), -2);
        Check.due("what -1", x.whatIs(0, -1), -2);
        Check.due("row", x.count(5), 2);
        Check.refused(x, 2, 2, 0, 0, 0);
    }

    private static void whatIsNone() {
        Check.says("none without a ROUND");
        PostmanRounds x = Check.told("sab05;scd05;");
        Check.due("c can't be come to", x.whatIs(0, 0), 0);
        Check.due("whatever the figure", x.whatIs(1, 1), 0);
        Check.due("unless it is a park", x.whatIs(1, 0), 0b100000);
        PostmanRounds y = Check.told("sab05;k010;");
        Check.due("there and back by what is no ONEWAY", y.whatIs(0, 0), 0b110101);
        Check.due("a ONEWAY has no figure that helps", y.whatIs(0, 1), 0);
        Check.row(y, 0, 1);
        Check.due("a park need not be walked", y.whatIs(0, 0), 0b010101);
        y.turns(0);
        Check.due("of a closed one no step is made", y.whatIs(0, 0), 0);
        y.clear();
        y.row(0);
        Check.due("so it is of any kind", y.whatIs(0, 0), 63);
        Check.due("with any figure", y.whatIs(0, 1), 1023);
        for (int i = 1; i < 32; i++) {
            y.row(0);
        }
        Check.due("a full row", y.whatIs(0, 0), 0);
        Check.due("stays", y.count(5), 32);
    }

    private static void rows() {
        Check.says("A number more of the ROW (0 .. 9): how many. -4; -6 (9; 32, too)");
        PostmanRounds x = new PostmanRounds();
        Check.due("0", x.row(0), 1);
        Check.due("9", x.row(9), 2);
        Check.due("-1", x.row(-1), -4);
        Check.due("10", x.row(10), -6);
        for (int i = 3; i <= 32; i++) {
            Check.due("number " + i, x.row(i % 10), i);
        }
        Check.due("a 33rd", x.row(0), -6);
        Check.due("a 33rd that is 10", x.row(10), -6);
        Check.due("a 33rd that is -1", x.row(-1), -4);
        Check.refused(x, 0, 0, 0, 2, 3);
        Check.says("The ROW has none then: how many it had");
        Check.due("clear", x.clear(), 32);
        Check.due("in the row", x.count(5), 0);
        Check.due("clear again", x.clear(), 0);
        Check.due("a first one", x.row(3), 1);
        Check.says("-9 (the ROW has none then");
        x.judge();
        Check.due("clear after judge", x.clear(), 0);
    }

    private static int judge(PostmanRounds x, int... numbers) {
        Check.row(x, numbers);
        int answer = x.judge();
        Check.due("in the row after judge", x.count(5), 0);
        return answer;
    }

    private static void judged() {
        Check.says("the first that is not so, or lacks, or is too much; -9");
        PostmanRounds x = Check.told("sab05;sbc07;sca03;");
        Check.due("all of them", judge(x, 0, 1, 2, 0), -9);
        Check.due("none: the first lacks", judge(x), 0);
        Check.due("one", judge(x, 0), 1);
        Check.due("the last lacks", judge(x, 0, 1, 2), 3);
        Check.due("one too much", judge(x, 0, 1, 2, 0, 1), 4);
        Check.due("several too much", judge(x, 0, 1, 2, 0, 9, 9, 9), 4);
        Check.due("the first is not so", judge(x, 1, 1, 2, 0), 0);
        Check.due("the last is not so", judge(x, 0, 1, 2, 9), 3);
        Check.due("the first of two", judge(x, 0, 5, 5), 1);
        int[] full = new int[32];
        Check.due("a full row", judge(x, full), 1);
        Check.says("without a ROUND: as if it had no CORNERS");
        x.home(5);
        Check.due("no round, no row", judge(x), -9);
        Check.due("no round, its home", judge(x, 5), 0);
        Check.due("no round, a full row", judge(x, full), 0);
        Check.noneRefused(x);
    }

    private static int draw(int z) {
        return (z & 0x7fffffff) / 256 % 99;
    }

    private static void lots() {
        Check.says("LENGTH of each STREET, by numbers, is 1 more than a DRAW below 99: how many have a ROUND; COSTS together");
        for (int seed : new int[] {0, 1, -1, 12345, Check.MIN, Check.MAX, -1664525}) {
            // The park and the closed street draw, too; only street 1 is walked, there and back.
            PostmanRounds x = Check.told("sab01;sab01;sab01;k050;x2;");
            int z = seed;
            int costs = 0;
            for (int n = 1; n <= 20; n++) {
                z = z * 1664525 + 1013904223;
                int park = 1 + draw(z);
                z = z * 1664525 + 1013904223;
                int street = 1 + draw(z);
                z = z * 1664525 + 1013904223;
                costs += street + Math.min(street, park);
                Check.due("lots(" + n + ", " + seed + ", 0)", x.lots(n, seed, 0), n);
                Check.due("lots(" + n + ", " + seed + ", 1)", x.lots(n, seed, 1), costs);
            }
            Check.due("lengths stay", x.count(3), 3);
            Check.noneRefused(x);
        }
    }

    private static void lotsOfNone() {
        Check.says("n maps (1 .. 20)");
        PostmanRounds x = Check.told("sab01;hf;");
        Check.due("none has a round", x.lots(20, 5, 0), 0);
        Check.due("no costs", x.lots(20, 5, 1), 0);
        Check.says("-4 1; -6 20; -2");
        Check.due("n 0", x.lots(0, 5, 2), -4);
        Check.due("n 21", x.lots(21, 5, 2), -6);
        Check.due("what 2", x.lots(1, 5, 2), -2);
        Check.due("what -1", x.lots(20, 5, -1), -2);
        Check.refused(x, 0, 2, 0, 1, 1);
        PostmanRounds y = new PostmanRounds();
        Check.due("each has one without steps", y.lots(20, 5, 0), 20);
        Check.due("that costs nothing", y.lots(20, 5, 1), 0);
        Check.due("one map", y.lots(1, 5, 0), 1);
    }
}
