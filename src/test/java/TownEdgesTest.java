/** Boundary cases of promises 1, 4 to 12 and 36 to 38: streets, corners, distances, the image, counts. */
public final class TownEdgesTest {
    public static void main(String[] args) {
        newObject();
        objectsApart();
        streetsComing();
        streetsRefused();
        streetAfterImage();
        turns();
        lengths();
        kinds();
        homes();
        costs();
        cornersOfStreets();
        cornersReached();
        distances();
        farthest();
        nextSteps();
        nextStepsOfSeveral();
        images();
        imageKeeps();
        onStays();
        counts();
        countsOfRefusals();
        Check.end("towns are as told at their edges");
    }

    private static void newObject() {
        Check.says("No STREETS; HOME is a");
        PostmanRounds x = new PostmanRounds();
        for (int what = 0; what <= 6; what++) {
            Check.due("count(" + what + ")", x.count(what), 0);
        }
        for (int corner = 0; corner < 6; corner++) {
            Check.due("degree", x.corner(corner, 0), 0);
            Check.due("streets at it", x.corner(corner, 1), 0);
            Check.due("corners from it", x.corner(corner, 2), 1 << corner);
            Check.due("partner", x.matched(corner), -9);
            Check.due("balance", x.balance(corner), 0);
            for (int to = 0; to < 6; to++) {
                Check.due("distance", x.distance(corner, to), corner == to ? 0 : -9);
                Check.due("next", x.next(corner, to), -9);
            }
        }
        for (int what = 0; what <= 3; what++) {
            Check.due("round(" + what + ")", x.round(what), 0);
        }
        Check.due("loose(0)", x.loose(0), 0);
        Check.due("loose(1)", x.loose(1), 0);
        Check.due("worst", x.worst(), -9);
        Check.due("odd", x.odd(), 0);
        Check.due("matching", x.matching(), 0);
        Check.due("flow", x.flow(), 0);
        Check.splicedAs(x, 0);
        Check.due("clear", x.clear(), 0);
        Check.due("image", x.image(), 0);
        Check.due("on", x.on(), 0);
        Check.noneRefused(x);
        Check.due("street(0, 0)", x.street(0, 0), -1);
        Check.due("step(0, 0)", x.step(0, 0), -1);
        Check.due("whatIs(0, 0)", x.whatIs(0, 0), -1);
        Check.due("dealt(1, 0)", x.dealt(1, 0), -1);
        Check.refused(x, 4, 0, 0, 0, 0);
    }

    private static void objectsApart() {
        Check.says("A new object: No STREETS; HOME is a");
        PostmanRounds one = Check.told("sab05;sbc06;hc;");
        one.image();
        Check.row(one, 2, 1);
        one.letter('s');
        one.round(9);
        PostmanRounds other = new PostmanRounds();
        for (int what = 0; what <= 6; what++) {
            Check.due("count(" + what + ") of the other", other.count(what), 0);
        }
        Check.noneRefused(other);
        Check.due("on of the other", other.on(), -3);
        other.streets(0, 5, 9);
        Check.due("streets of the one", one.count(0), 2);
        Check.due("round of the one", one.round(0), 22);
        Check.due("round of the other", other.round(0), 18);
        Check.due("home of the one", one.count(4), 2);
    }

    private static void streetsComing() {
        Check.says("A STREET more: its number; LENGTH (1 .. 99), BOTH and 0 at first; OPEN (at first)");
        PostmanRounds x = new PostmanRounds();
        Check.due("the least length", x.streets(0, 5, 1), 0);
        Check.street(x, 0, 0, 5, 1, 0, 0, 1, 1, 1);
        Check.due("the greatest", x.streets(5, 0, 99), 1);
        Check.street(x, 1, 5, 0, 99, 0, 0, 1, 99, 99);
        Check.says("STREETS 0 .. as they come (8 at most)");
        for (int street = 2; street < 8; street++) {
            Check.due("street " + street, x.streets(street - 2, street - 1 > 5 ? 0 : street - 1, 10 * street), street);
        }
        Check.due("a ninth", x.streets(0, 1, 5), -6);
        Check.due("a ninth that is too long", x.streets(0, 1, 100), -6);
        Check.due("a ninth of length 0", x.streets(0, 1, 0), -4);
        Check.due("a ninth to itself", x.streets(1, 1, 5), -3);
        Check.due("a ninth to corner 6", x.streets(1, 6, 5), -1);
        Check.due("streets", x.count(0), 8);
        Check.street(x, 7, 5, 0, 70, 0, 0, 1);
        Check.refused(x, 1, 0, 1, 1, 2);
    }

    private static void streetsRefused() {
        Check.says("-1 either; -3 they are one; -4 1; -6 (99; a STREET more, too)");
        PostmanRounds x = new PostmanRounds();
        Check.due("from 6", x.streets(6, 0, 5), -1);
        Check.due("to 6", x.streets(0, 6, 5), -1);
        Check.due("from -1", x.streets(-1, 0, 5), -1);
        Check.due("to -1", x.streets(0, -1, 5), -1);
        Check.due("both 6", x.streets(6, 6, 0), -1);
        Check.due("a to a", x.streets(0, 0, 5), -3);
        Check.due("f to f of length 0", x.streets(5, 5, 0), -3);
        Check.due("f to f of length 100", x.streets(5, 5, 100), -3);
        Check.due("length 0", x.streets(0, 1, 0), -4);
        Check.due("the least number", x.streets(0, 1, Check.MIN), -4);
        Check.due("length 100", x.streets(0, 1, 100), -6);
        Check.due("the greatest number", x.streets(0, 1, Check.MAX), -6);
        Check.due("streets", x.count(0), 0);
        Check.refused(x, 5, 0, 3, 2, 2);
        Check.due("then a good one has number 0", x.streets(0, 1, 5), 0);
    }

    private static void streetAfterImage() {
        Check.says("BOTH and 0 at first; OPEN (at first)");
        PostmanRounds x = Check.told("sab05;".repeat(8) + "k759;x7;k659;");
        x.image();
        PostmanRounds y = Check.told("sab05;");
        y.image();
        Check.tell(y, "scd07;k148;x1;x1;x1;");
        Check.due("on", y.on(), 1);
        Check.due("its number", y.streets(4, 5, 8), 1);
        Check.street(y, 1, 4, 5, 8, 0, 0, 1);
        y.on();
        Check.due("by a map", Check.tell(y, "sef09;"), 1);
        Check.street(y, 1, 4, 5, 9, 0, 0, 1);
        Check.says("a STREET more, too");
        Check.due("on of eight", x.on(), 8);
        Check.due("a ninth", x.streets(0, 1, 1), -6);
        Check.refused(x, 0, 0, 0, 0, 1);
    }

    private static void turns() {
        Check.says("It is closed, or OPEN: 1 OPEN, 0. -1");
        PostmanRounds x = Check.told("sab05;".repeat(8) + "k050;");
        for (int street = 0; street < 8; street++) {
            Check.due("turns(" + street + ")", x.turns(street), 0);
            Check.due("OPEN", x.count(1), 255 & ~(1 << street));
            Check.says("DUE: a STREET that is OPEN and no PARK");
            Check.due("DUE", x.count(2), 254 & ~(1 << street));
            Check.due("turns(" + street + ") again", x.turns(street), 1);
            Check.due("OPEN", x.count(1), 255);
        }
        Check.due("turns(8)", x.turns(8), -1);
        Check.due("turns(-1)", x.turns(-1), -1);
        Check.due("OPEN", x.count(1), 255);
        Check.refused(x, 2, 0, 0, 0, 0);
        PostmanRounds y = Check.told("sab05;");
        Check.due("one that did not come", y.turns(1), -1);
        Check.due("OPEN", y.count(1), 1);
        y.streets(0, 1, 5);
        Check.due("OPEN, now that it came", y.count(1), 3);
    }

    private static void lengths() {
        Check.says("Its LENGTH: the old. -1; -4 1; -6 99");
        PostmanRounds x = Check.told("sab05;sab06;");
        Check.due("to 1", x.length(1, 1), 6);
        Check.due("to 99", x.length(1, 99), 1);
        Check.due("to 99 again", x.length(1, 99), 99);
        Check.due("to 0", x.length(1, 0), -4);
        Check.due("to 100", x.length(1, 100), -6);
        Check.due("of 2, to 0", x.length(2, 0), -1);
        Check.due("of 2, to 100", x.length(2, 100), -1);
        Check.due("of -1", x.length(-1, 5), -1);
        Check.due("it stays", x.street(1, 2), 99);
        Check.due("the other, too", x.street(0, 2), 5);
        Check.refused(x, 3, 0, 0, 1, 1);
        x.turns(0);
        Check.due("of a closed one", x.length(0, 7), 5);
        Check.due("which stays closed", x.street(0, 5), 0);
    }

    private static void kinds() {
        Check.says("10 times the KIND and the FIGURE that were. -1; -2; -4; -6 9");
        PostmanRounds x = Check.told("sab05;sab05;");
        int old = 0;
        for (int kind = 0; kind <= 5; kind++) {
            for (int figure = 0; figure <= 9; figure++) {
                Check.due("kind(1, " + kind + ", " + figure + ")", x.kind(1, kind, figure), old);
                old = 10 * kind + figure;
            }
        }
        Check.due("figure 10", x.kind(1, 0, 10), -6);
        Check.due("figure -1", x.kind(1, 0, -1), -4);
        Check.due("kind 6, figure -1", x.kind(1, 6, -1), -2);
        Check.due("kind -1, figure 10", x.kind(1, -1, 10), -2);
        Check.due("street 2, kind 6", x.kind(2, 6, 10), -1);
        Check.due("street -1", x.kind(-1, 0, 0), -1);
        Check.due("it stays", x.kind(1, 0, 0), 59);
        Check.due("the other was never changed", x.kind(0, 0, 0), 0);
        Check.refused(x, 2, 2, 0, 1, 1);
    }

    private static void homes() {
        Check.says("HOME: the old. -1");
        PostmanRounds x = new PostmanRounds();
        for (int corner = 0; corner < 6; corner++) {
            Check.due("home(" + corner + ")", x.home(corner), corner == 0 ? 0 : corner - 1);
            Check.due("home again", x.home(corner), corner);
            Check.due("count(4)", x.count(4), corner);
        }
        Check.due("home(6)", x.home(6), -1);
        Check.due("home(-1)", x.home(-1), -1);
        Check.due("it stays", x.count(4), 5);
        Check.refused(x, 2, 0, 0, 0, 0);
    }

    private static void costs() {
        Check.says("COST of a STREET ON and BACK; either -9, if it can't be walked so");
        PostmanRounds x = Check.told("sab01;sab99;");
        int[][] on = {{1, 1, 99, 99}, {1, 1, 99, 99}, {1, 1, 99, 99}, {1, 10, 99, 108}, {2, 2, 198, 198}, {1, 1, 99, 99}};
        int[][] back = {{1, 1, 99, 99}, {-9, -9, -9, -9}, {1, 10, 99, 108}, {-9, -9, -9, -9}, {2, 20, 198, 216}, {1, 1, 99, 99}};
        for (int kind = 0; kind <= 5; kind++) {
            for (int i = 0; i < 4; i++) {
                int street = i / 2;
                x.kind(street, kind, i % 2 == 0 ? 0 : 9);
                Check.due("kind " + kind + " ON " + i, x.street(street, 6), on[kind][i]);
                Check.due("kind " + kind + " BACK " + i, x.street(street, 7), back[kind][i]);
                Check.says("A closed one can't be walked");
                x.turns(street);
                Check.due("closed ON", x.street(street, 6), -9);
                Check.due("closed BACK", x.street(street, 7), -9);
                x.turns(street);
            }
        }
        Check.says("-1; -2");
        Check.due("what 8", x.street(0, 8), -2);
        Check.due("what -1", x.street(0, -1), -2);
        Check.due("street 2, what 8", x.street(2, 8), -1);
        Check.due("street -1", x.street(-1, 0), -1);
        Check.refused(x, 2, 2, 0, 0, 0);
    }

    private static void cornersOfStreets() {
        Check.says("DEGREE of a CORNER: how many STREETS that are DUE have it as one of their two CORNERS");
        PostmanRounds x = Check.told("sab05;".repeat(4) + "sba05;".repeat(4));
        Check.due("eight begin or end there", x.corner(0, 0), 8);
        Check.due("eight end or begin there", x.corner(1, 0), 8);
        Check.due("none", x.corner(2, 0), 0);
        x.kind(0, 5, 0);
        x.turns(7);
        Check.due("a park and a closed one are not DUE", x.corner(0, 0), 6);
        Check.says("1 STREETS (bits) that begin or end there");
        Check.due("all came", x.corner(0, 1), 255);
        Check.due("to both", x.corner(1, 1), 255);
        Check.due("none to f", x.corner(5, 1), 0);
        Check.says("-1; -2");
        Check.due("what 3", x.corner(5, 3), -2);
        Check.due("what -1", x.corner(0, -1), -2);
        Check.due("corner 6, what 3", x.corner(6, 3), -1);
        Check.due("corner -1", x.corner(-1, 0), -1);
        Check.refused(x, 2, 2, 0, 0, 0);
    }

    private static void cornersReached() {
        Check.says("2 CORNERS (bits) to which there is a DISTANCE");
        PostmanRounds x = Check.told("sab05;sbc05;scd05;sde05;sef05;k010;k210;k430;");
        int[] wanted = {63, 62, 62, 56, 56, 32};
        for (int corner = 0; corner < 6; corner++) {
            Check.due("from " + corner, x.corner(corner, 2), wanted[corner]);
        }
        x.turns(1);
        Check.due("from a, if bc is closed", x.corner(0, 2), 3);
        Check.due("from b", x.corner(1, 2), 2);
        x.turns(1);
        x.kind(1, 5, 0);
        Check.due("from a by a park", x.corner(0, 2), 63);
    }

    private static void distances() {
        Check.says("DISTANCE from a CORNER to another one: the least COST of a WAY (0 to itself; -9 none)");
        PostmanRounds x = Check.told("sab05;");
        Check.due("to itself", x.distance(0, 0), 0);
        Check.due("to itself, where no street is", x.distance(5, 5), 0);
        Check.due("none", x.distance(0, 5), -9);
        x.turns(0);
        Check.due("by a closed one", x.distance(0, 1), -9);
        Check.due("to itself, with none OPEN", x.distance(1, 1), 0);
        x.turns(0);
        x.kind(0, 1, 9);
        Check.due("ONEWAY ON", x.distance(0, 1), 5);
        Check.due("ONEWAY BACK", x.distance(1, 0), -9);
        x.kind(0, 3, 9);
        Check.due("TOLL ON", x.distance(0, 1), 14);
        x.kind(0, 5, 9);
        Check.due("PARK BACK", x.distance(1, 0), 5);
        Check.says("-1 either");
        Check.due("from 6", x.distance(6, 0), -1);
        Check.due("to 6", x.distance(0, 6), -1);
        Check.due("both 6", x.distance(6, 6), -1);
        Check.due("from -1", x.distance(-1, 0), -1);
        Check.due("to -1", x.distance(0, -1), -1);
        Check.refused(x, 5, 0, 0, 0, 0);
    }

    private static void farthest() {
        Check.says("the least COST of a WAY, together");
        PostmanRounds x = Check.told("sba99;scb99;sdc99;sed99;sfe99;k049;k149;k249;k349;k449;");
        Check.due("five SLOW ones BACK", x.distance(0, 5), 1080);
        Check.due("five SLOW ones ON", x.distance(5, 0), 990);
        x.streets(0, 5, 99);
        Check.due("a shorter one", x.distance(0, 5), 99);
        Check.due("a way about by it", x.distance(0, 4), 99 + 198);
        Check.says("WAY: STEPS one behind the other, each from where the one ahead came");
        for (int by = 0; by < 6; by++) {
            PostmanRounds y = new PostmanRounds();
            y.streets(by, (by + 1) % 6, 5);
            y.streets((by + 2) % 6, by, 7);
            Check.due("by corner " + by, y.distance((by + 1) % 6, (by + 2) % 6), 12);
            Check.due("next by corner " + by, y.next((by + 1) % 6, (by + 2) % 6), 1);
        }
    }

    private static void nextSteps() {
        Check.says("NEXT STEP: 2 times the STREET, and 1, if it is BACK; -9 (none, or they are one). -1 either");
        PostmanRounds x = Check.told("sab09;".repeat(7) + "sbc03;");
        Check.due("the greatest street ON", x.next(1, 2), 14);
        Check.due("the greatest street BACK", x.next(2, 1), 15);
        Check.due("the least street ON", x.next(0, 1), 0);
        Check.due("the least street BACK", x.next(1, 0), 1);
        Check.due("they are one", x.next(0, 0), -9);
        Check.due("none", x.next(0, 3), -9);
        x.turns(7);
        Check.due("closed", x.next(1, 2), -9);
        Check.due("from 6", x.next(6, 0), -1);
        Check.due("to 6", x.next(0, 6), -1);
        Check.due("both -1", x.next(-1, -1), -1);
        Check.refused(x, 3, 0, 0, 0, 0);
    }

    private static void nextStepsOfSeveral() {
        Check.says("the least STREET (of both ways ON) with which a WAY of least COST begins");
        PostmanRounds x = Check.told("sbc04;sab04;sca08;sac08;");
        Check.due("by b or at once: street 1 is less than 2", x.next(0, 2), 2);
        Check.due("from c: street 0 is the least", x.next(2, 0), 1);
        x.length(0, 5);
        Check.due("at once, BACK", x.next(0, 2), 5);
        Check.due("at once, ON", x.next(2, 0), 4);
        x.kind(2, 1, 0);
        Check.due("not against a ONEWAY", x.next(0, 2), 6);
    }

    private static void images() {
        Check.says("THE IMAGE is taken: how many STREETS came");
        PostmanRounds x = new PostmanRounds();
        Check.says("-3 there is none");
        Check.due("on", x.on(), -3);
        Check.due("on again", x.on(), -3);
        Check.refused(x, 0, 0, 2, 0, 0);
        x.home(3);
        Check.due("an image of none", x.image(), 0);
        Check.tell(x, "sab05;".repeat(8) + "x3;hf;");
        Check.due("on from none", x.on(), 0);
        Check.due("OPEN", x.count(1), 0);
        Check.due("home", x.count(4), 3);
        Check.due("street(0, 0)", x.street(0, 0), -1);
        Check.tell(x, "sab05;".repeat(8) + "x3;");
        Check.due("a later image takes its place", x.image(), 8);
        Check.due("on from eight", x.on(), 8);
        Check.due("closed ones stay closed", x.count(1), 255 & ~8);
        Check.refused(x, 1, 0, 2, 0, 0);
    }

    private static void imageKeeps() {
        Check.says("ON from it all is as then");
        PostmanRounds x = Check.told("sab05;sbc07;scd09;k134;k259;x0;hb;");
        x.image();
        Check.tell(x, "x0;x1;k042;k111;l066;l177;l288;he;sde01;sef01;");
        Check.due("on", x.on(), 3);
        Check.street(x, 0, 0, 1, 5, 0, 0, 0);
        Check.street(x, 1, 1, 2, 7, 3, 4, 1);
        Check.street(x, 2, 2, 3, 9, 5, 9, 1);
        Check.due("home", x.count(4), 1);
        Check.due("a street that came later", x.street(3, 0), -1);
        Check.due("distance", x.distance(1, 3), 20);
        Check.due("no round", x.round(0), -9);
        x.turns(0);
        x.kind(1, 0, 0);
        Check.due("a round before on", x.round(0), 24);
        x.on();
        Check.due("no round after it", x.round(0), -9);
        Check.refused(x, 1, 0, 0, 0, 0);
    }

    private static void onStays() {
        Check.says("all that there is, but it, the ROW, letters, REFUSALS");
        PostmanRounds x = Check.told("sab05;");
        Check.row(x, 0);
        x.letter('h');
        x.image();
        Check.row(x, 1, 0);
        x.letter('b');
        x.letter(';');
        x.round(5);
        Check.due("on", x.on(), 1);
        Check.due("row", x.count(5), 3);
        Check.due("letters", x.count(6), 3);
        Check.refused(x, 0, 1, 0, 0, 0);
        Check.due("the row as told", x.judge(), -9);
        Check.due("the letters as told", x.map(), 1);
        Check.due("home by these", x.count(4), 1);
        Check.due("on again: the image stays", x.on(), 1);
        Check.due("home as then", x.count(4), 0);
        Check.due("the row stays without any", x.count(5), 0);
        Check.due("letters stay none", x.count(6), 0);
        x.streets(0, 1, 3);
        Check.due("an image changes nothing", x.image(), 2);
        Check.due("on from the later one", x.on(), 2);
    }

    private static void counts() {
        Check.says("-9 for another what");
        PostmanRounds x = Check.told("sab05;sbc07;scd20;k250;x1;he;");
        int[] others = {Check.MIN, -16, -11, -9, -1, 7, 8, 9, 10, 17, 18, 26, 32, 100, Check.MAX};
        for (int what : others) {
            Check.due("count(" + what + ")", x.count(what), -9);
        }
        Check.noneRefused(x);
        Check.says("0 STREETS that came, 1 those that are OPEN (bits), 2 those that are DUE (bits), 3 LENGTHS together, 4 HOME");
        int[] wanted = {3, 5, 1, 32, 4};
        for (int what = 0; what < wanted.length; what++) {
            Check.due("count(" + what + ")", x.count(what), wanted[what]);
        }
        PostmanRounds full = Check.told("sab99;".repeat(8));
        Check.due("OPEN", full.count(1), 255);
        Check.due("DUE", full.count(2), 255);
        Check.due("LENGTHS", full.count(3), 792);
        for (int street = 0; street < 8; street++) {
            full.turns(street);
        }
        Check.due("none OPEN", full.count(1), 0);
        Check.due("none DUE", full.count(2), 0);
        Check.due("they came", full.count(0), 8);
    }

    private static void countsOfRefusals() {
        Check.says("11 .. 16 REFUSALS -1 .. -6");
        PostmanRounds x = new PostmanRounds();
        for (int i = 1; i <= 5; i++) {
            x.home(6);
            Check.refused(x, i, i - 1, i - 1, i - 1, i - 1);
            x.loose(2);
            Check.refused(x, i, i, i - 1, i - 1, i - 1);
            x.streets(2, 2, 5);
            Check.refused(x, i, i, i, i - 1, i - 1);
            x.lots(0, 0, 0);
            Check.refused(x, i, i, i, i, i - 1);
            x.lots(21, 0, 0);
            Check.refused(x, i, i, i, i, i);
        }
        Check.says("a FAULT and a -9 are no REFUSALS");
        PostmanRounds y = Check.told("sab05;hf;");
        y.map();
        Check.tell(y, "x9;");
        y.round(0);
        y.distance(0, 5);
        y.next(3, 3);
        y.matched(3);
        y.spliced(99);
        y.loose(0);
        y.without(0);
        y.turned(0);
        y.shared(1, 0);
        y.dealt(1, 0);
        y.judge();
        y.count(99);
        y.time(1, 0);
        y.lost(0, 2, 0);
        Check.noneRefused(y);
        y.rank(1, 1, 1, 1);
        y.balance(6);
        y.lost(-1, 2, 0);
        y.lost(0, 21, 0);
        y.lost(0, 2, 2);
        Check.refused(y, 1, 1, 1, 1, 1);
    }
}
