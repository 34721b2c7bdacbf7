/** Boundary cases of promises 18 to 23, 28 and 29: odd corners, walks put together, balances, several postmen. */
public final class PairsEdgesTest {
    public static void main(String[] args) {
        odd();
        matchedByTwos();
        matchedOfSeveral();
        notMatched();
        matchedRefused();
        splicedAlone();
        splicedTwice();
        splicedInside();
        splicedBothWays();
        splicedRefused();
        balances();
        flows();
        flowsThatCantBe();
        sharedByNone();
        sharedLeast();
        sharedAlike();
        notShared();
        sharedRefused();
        Check.end("odd corners, balances and postmen are as told at their edges");
    }

    private static void odd() {
        Check.says("ODD: CORNERS (bits) whose DEGREE is odd");
        Check.due("no streets", new PostmanRounds().odd(), 0);
        PostmanRounds x = Check.told("sab05;scd05;sef05;");
        Check.due("all six", x.odd(), 63);
        x.streets(1, 0, 5);
        Check.due("two of a and b", x.odd(), 60);
        x.streets(0, 1, 5);
        Check.due("three of a and b", x.odd(), 63);
        x.turns(2);
        Check.due("a closed one is not DUE", x.odd(), 15);
        x.kind(1, 5, 0);
        Check.due("nor is a park", x.odd(), 3);
        Check.due("eight of a and b", Check.told("sab05;".repeat(8)).odd(), 0);
        Check.due("seven", Check.told("sab05;".repeat(7)).odd(), 3);
    }

    private static void pairs(PostmanRounds x, int together, int... partners) {
        Check.due("matching", x.matching(), together);
        for (int corner = 0; corner < 6; corner++) {
            Check.due("matched(" + corner + ")", x.matched(corner), partners[corner]);
        }
    }

    private static void matchedByTwos() {
        Check.says("ODD in twos so that DISTANCES, from the lesser to the greater of each two, are least together");
        pairs(new PostmanRounds(), 0, -9, -9, -9, -9, -9, -9);
        pairs(Check.told("sab05;sab05;"), 0, -9, -9, -9, -9, -9, -9);
        pairs(Check.told("sfa05;"), 5, 5, -9, -9, -9, -9, 0);
        pairs(Check.told("sba05;k029;"), 14, 1, 0, -9, -9, -9, -9);
        pairs(Check.told("sab05;k029;"), 5, 1, 0, -9, -9, -9, -9);
        pairs(Check.told("sab05;k010;"), 5, 1, 0, -9, -9, -9, -9);
        pairs(Check.told("sab99;scd99;sef99;"), 297, 1, 0, 3, 2, 5, 4);
        // The least corner's nearest partner is not the best one: a to b 1 and c to d 9, but a to c 3 and b to d 3.
        pairs(Check.told("sab01;k050;sac03;sbd03;scd09;k350;"), 6, 2, 3, 0, 1, -9, -9);
    }

    private static void matchedOfSeveral() {
        Check.says("of several such: the least CORNER has the least partner, then the least of those left, and so on");
        // Parks about c, d, e, f: c to d and e to f cost as much as c to f and d to e.
        pairs(Check.told("sab09;sce09;sdf09;sfc01;sde01;sef01;scd01;k350;k450;k550;k650;"), 11, 1, 0, 3, 2, 5, 4);
        // The same of a, b, c, d.
        pairs(Check.told("sac09;sbd09;sda01;sbc01;scd01;sab01;k250;k350;k450;k550;"), 2, 1, 0, 3, 2, -9, -9);
        // All three pairings of the corners about e cost as much.
        pairs(Check.told("sea02;seb02;sec02;sed02;"), 8, 1, 0, 3, 2, -9, -9);
    }

    private static void notMatched() {
        Check.says("(none is -9: then it can't be so)");
        pairs(Check.told("sba05;k010;"), -9, -9, -9, -9, -9, -9, -9);
        pairs(Check.told("sba05;k010;scd05;"), -9, -9, -9, -9, -9, -9, -9);
        pairs(Check.told("scd05;sba05;k130;"), -9, -9, -9, -9, -9, -9, -9);
        // a can't be with b or d, so it is with c.
        pairs(Check.told("sac05;sbd06;"), 11, 2, 3, 0, 1, -9, -9);
        // One pairing is left, by parks that lead one way about only.
        PostmanRounds x = Check.told("sba05;k010;sac01;scb01;k150;k250;");
        pairs(x, 2, 1, 0, -9, -9, -9, -9);
        x.turns(2);
        pairs(x, -9, -9, -9, -9, -9, -9, -9);
        Check.due("spliced(-1)", x.spliced(-1), -9);
        Check.noneRefused(x);
    }

    private static void matchedRefused() {
        Check.says("-9 (it isn't ODD, or they can't be MATCHED). -1");
        PostmanRounds x = Check.told("sab05;sbc05;");
        Check.due("b isn't ODD", x.matched(1), -9);
        Check.due("d isn't ODD", x.matched(3), -9);
        Check.noneRefused(x);
        Check.due("matched(6)", x.matched(6), -1);
        Check.due("matched(-1)", x.matched(-1), -1);
        Check.refused(x, 2, 0, 0, 0, 0);
    }

    private static void splicedAlone() {
        Check.says("(the first is HOME); what can't be come to stays out");
        Check.splicedAs(Check.told("he;"), 4);
        Check.splicedAs(Check.told("sab05;hf;"), 5);
        Check.splicedAs(Check.told("sab05;k050;hb;"), 1);
        Check.splicedAs(Check.told("sab05;x0;"), 0);
        Check.splicedAs(Check.told("sab05;scd05;"), 0, 1, 0);
        Check.splicedAs(Check.told("sab05;scd05;hd;"), 3, 2, 3);
        // d and e can be come to by a park, but that is not walked.
        Check.splicedAs(Check.told("sab05;sab05;sbd01;sde05;sde05;k250;"), 0, 1, 0);
    }

    private static void splicedTwice() {
        Check.says("(a STREET that is there twice is twice left)");
        Check.splicedAs(Check.told("sab05;"), 0, 1, 0);
        Check.splicedAs(Check.told("sab05;sbc05;scd05;sde05;sef05;"), 0, 1, 2, 3, 4, 5, 4, 3, 2, 1, 0);
        Check.splicedAs(Check.told("sef05;sde05;scd05;sbc05;sab05;hc;"), 2, 3, 4, 5, 4, 3, 2, 1, 0, 1, 2);
        Check.splicedAs(Check.told("sab05;sab05;sab05;"), 0, 1, 0, 1, 0);
        // The odd corners b and c are matched by a park, that is there once.
        Check.splicedAs(Check.told("sab05;sac05;sbc01;k250;"), 0, 1, 2, 0);
        Check.splicedAs(Check.told("sab01;".repeat(7)), 0, 1, 0, 1, 0, 1, 0, 1, 0);
    }

    private static void splicedInside() {
        Check.says("till none is left there; then, of what was walked so far, at the first CORNER at which one is left");
        // At b street 1 leads home at once; street 2 and 3 are put in at b.
        Check.splicedAs(Check.told("sab05;sab05;sbc05;sbc05;"), 0, 1, 2, 1, 0);
        // At home itself: b there and back, c there and back, none is put in.
        Check.splicedAs(Check.told("sab05;sab05;sac05;sac05;"), 0, 1, 0, 2, 0);
        // Put in at b first, although d is left at c, too; then at c.
        Check.splicedAs(Check.told("sab05;sbc05;sca05;sbd05;sbd05;sce05;sce05;"), 0, 1, 3, 1, 2, 4, 2, 0);
        // What was put in has streets left itself, ahead of c.
        Check.splicedAs(Check.told("sab05;sbc05;sca05;sbd05;sbd05;sde05;sde05;"), 0, 1, 3, 4, 3, 1, 2, 0);
        // b comes twice: the second walk is put in where it comes first.
        Check.splicedAs(Check.told("sab05;sbc05;scb05;sba05;sbd05;sdb05;"), 0, 1, 3, 1, 2, 1, 0);
    }

    private static void splicedBothWays() {
        Check.says("all of these are walked both ways alike");
        Check.splicedAs(Check.told("sba05;sba05;k010;k130;"), 0, 1, 0);
        Check.splicedAs(Check.told("sab05;k010;"), 0, 1, 0);
        Check.splicedAs(Check.told("sba05;scb05;sac05;k010;k110;k210;"), 0, 1, 2, 0);
        Check.says("those of a WAY by NEXT STEPS from the lesser to the greater of each two that are MATCHED");
        // From a to b street 0 costs 4, the parks 2, then 5; from b to a the parks would cost less each time.
        PostmanRounds x = Check.told("sab04;sac01;scb01;k029;k150;k250;hb;");
        Check.splicedAs(x, 1, 0, 2, 1);
        x.length(1, 4);
        Check.splicedAs(x, 1, 0, 1);
    }

    private static void splicedRefused() {
        Check.says("-9 (behind all; can't be MATCHED). -4 below -1");
        PostmanRounds x = Check.told("sab05;");
        Check.due("how many", x.spliced(-1), 3);
        Check.due("the last", x.spliced(2), 0);
        Check.due("behind all", x.spliced(3), -9);
        Check.due("far behind all", x.spliced(Check.MAX), -9);
        Check.noneRefused(x);
        Check.due("-2", x.spliced(-2), -4);
        Check.due("the least number", x.spliced(Check.MIN), -4);
        Check.refused(x, 0, 0, 0, 2, 0);
        PostmanRounds y = Check.told("sba05;k010;");
        Check.due("how many, if they can't be MATCHED", y.spliced(-1), -9);
        Check.due("the first", y.spliced(0), -9);
        Check.due("-2, if they can't be MATCHED", y.spliced(-2), -4);
        Check.refused(y, 0, 0, 0, 1, 0);
    }

    private static void balances() {
        Check.says("of STREETS that are ONEWAY or TOLL and DUE how many begin there less how many end there");
        PostmanRounds x = Check.told("sab05;".repeat(8) + "k010;k130;k210;k330;k410;k530;k610;k739;");
        Check.due("eight begin", x.balance(0), 8);
        Check.due("eight end", x.balance(1), -8);
        Check.due("none", x.balance(5), 0);
        int[] others = {0, 2, 4, 5};
        for (int i = 0; i < others.length; i++) {
            x.kind(i, others[i], 9);
            Check.due("kind " + others[i] + " is not counted", x.balance(0), 7 - i);
        }
        x.turns(7);
        Check.due("a closed one is not DUE", x.balance(0), 3);
        Check.due("nor at its end", x.balance(1), -3);
        Check.noneRefused(x);
        Check.says("Refused -100001");
        Check.due("balance(6)", x.balance(6), -100001);
        Check.due("balance(-1)", x.balance(-1), -100001);
        Check.refused(x, 2, 0, 0, 0, 0);
    }

    private static void flows() {
        Check.says("of WAYS from CORNERS that are below 0 to CORNERS that are above 0, each as often as it is from 0");
        Check.due("none", Check.told("sab05;").flow(), 0);
        Check.due("a ring of ONEWAYS is balanced", Check.told("sab05;sbc05;sca05;k010;k110;k210;").flow(), 0);
        PostmanRounds x = Check.told("sab01;".repeat(7) + "sab09;k010;k110;k210;k310;k410;k530;k639;");
        Check.due("seven from b to a", x.flow(), 63);
        x.kind(7, 2, 9);
        Check.due("seven times BACK", x.flow(), 126);
        x.kind(7, 5, 0);
        Check.due("by a park", x.flow(), 63);
        // b, c and d are one below 0 each, a is three above it.
        PostmanRounds y = Check.told("sab05;sac06;sad07;k010;k110;k210;sba01;sca02;sda03;");
        Check.due("three corners below 0, one above 0", y.flow(), 6);
    }

    private static void flowsThatCantBe() {
        Check.says("-9: it can't be");
        PostmanRounds x = Check.told("sab05;k010;");
        Check.due("a ONEWAY alone", x.flow(), -9);
        x.turns(0);
        Check.due("closed", x.flow(), 0);
        Check.due("eight of them", Check.told("sab05;".repeat(8) + "k010;k110;k210;k310;k410;k510;k610;k710;").flow(), -9);
        Check.due("a is below 0 by 2, b and c above it; no way from a to b",
                Check.told("sba05;sca06;k010;k130;sac02;").flow(), -9);
        Check.due("one of two", Check.told("sab05;sab01;scd05;k010;k210;").flow(), -9);
        Check.due("both", Check.told("sab05;sab01;scd05;scd02;k010;k210;").flow(), 3);
        Check.noneRefused(x);
    }

    private static void sharedAs(PostmanRounds x, int n, int greatest, int together, int many) {
        Check.due("shared(" + n + ", 0)", x.shared(n, 0), greatest);
        Check.due("shared(" + n + ", 1)", x.shared(n, 1), together);
        Check.due("shared(" + n + ", 2)", x.shared(n, 2), many);
    }

    private static void dealtAs(PostmanRounds x, int n, int... postmen) {
        for (int street = 0; street < postmen.length; street++) {
            Check.due("dealt(" + n + ", " + street + ")", x.dealt(n, street), postmen[street]);
        }
    }

    private static void sharedByNone() {
        Check.says("the least COST of a WAY from HOME to HOME that walks at least the STREETS dealt to it (none: 0)");
        for (int n = 1; n <= 3; n++) {
            sharedAs(new PostmanRounds(), n, 0, 0, 0);
            sharedAs(Check.told("sab05;k050;hf;"), n, 0, 0, 0);
            PostmanRounds x = Check.told("sab05;scd05;x1;");
            sharedAs(x, n, 10, 10, 1);
            Check.says("-9 (it isn't DUE");
            dealtAs(x, n, 0, -9);
            Check.noneRefused(x);
        }
    }

    private static void sharedLeast() {
        Check.says("of all dealings the one with which the greatest of these COSTS is least");
        PostmanRounds x = Check.told("sab05;sac04;sad03;sae02;");
        sharedAs(x, 1, 28, 28, 1);
        sharedAs(x, 2, 14, 28, 2);
        dealtAs(x, 2, 0, 1, 1, 0);
        sharedAs(x, 3, 10, 28, 3);
        dealtAs(x, 3, 0, 1, 2, 2);
        Check.says("of several the one with which they are least together");
        PostmanRounds y = Check.told("sab05;sbc05;sad10;");
        sharedAs(y, 3, 20, 40, 2);
        dealtAs(y, 3, 0, 0, 1);
        // 40 is the greatest with 0 and 1 by one of them (70 together), and with 0 and 2 (50).
        PostmanRounds chain = Check.told("sab10;sad05;sbc10;");
        sharedAs(chain, 2, 40, 50, 2);
        dealtAs(chain, 2, 0, 1, 0);
        // 44 together with 0 and 2 by one of them, but then the greatest is 40, not 34.
        PostmanRounds park = Check.told("sde05;sab02;sdf05;sad10;k350;");
        sharedAs(park, 2, 34, 64, 2);
        dealtAs(park, 2, 0, 0, 1, -9);
        // A ring costs 15, whether one walks a street of it or all, but for b by itself: there and back is 10.
        PostmanRounds ring = Check.told("sbc05;sab05;sca05;");
        sharedAs(ring, 2, 15, 15, 1);
        dealtAs(ring, 2, 0, 0, 0);
        dealtAs(ring, 3, 0, 0, 0);
    }

    private static void sharedAlike() {
        Check.says("the one in which the least STREET that is DUE goes to the least postman, then the next such STREET, and so on");
        PostmanRounds x = Check.told("sab05;sac05;sad05;");
        dealtAs(x, 1, 0, 0, 0);
        dealtAs(x, 2, 0, 0, 1);
        dealtAs(x, 3, 0, 1, 2);
        sharedAs(x, 2, 20, 30, 2);
        x.streets(0, 4, 5);
        dealtAs(x, 3, 0, 0, 1, 1);
        sharedAs(x, 3, 20, 40, 2);
        x.kind(0, 5, 0);
        dealtAs(x, 3, -9, 0, 1, 2);
        x.turns(1);
        dealtAs(x, 3, -9, -9, 0, 1);
        sharedAs(x, 3, 10, 20, 2);
        PostmanRounds full = Check.told("sab05;".repeat(8));
        // Four cost as much as three; 4 and 4 are no more together than 4, 2 and 2.
        sharedAs(full, 3, 20, 40, 2);
        dealtAs(full, 3, 0, 0, 0, 0, 1, 1, 1, 1);
        sharedAs(full, 2, 20, 40, 2);
        sharedAs(full, 1, 40, 40, 1);
    }

    private static void notShared() {
        Check.says("-9: with each dealing one of them has no such WAY");
        PostmanRounds x = Check.told("sab05;scd05;");
        PostmanRounds y = Check.told("sab05;k010;");
        for (int n = 1; n <= 3; n++) {
            sharedAs(x, n, -9, -9, -9);
            dealtAs(x, n, -9, -9);
            sharedAs(y, n, -9, -9, -9);
            dealtAs(y, n, -9);
        }
        Check.noneRefused(x);
    }

    private static void sharedRefused() {
        Check.says("-4 1; -6 3; -2");
        PostmanRounds x = Check.told("sab05;");
        Check.due("shared(0, 3)", x.shared(0, 3), -4);
        Check.due("shared(4, -1)", x.shared(4, -1), -6);
        Check.due("shared(1, 3)", x.shared(1, 3), -2);
        Check.due("shared(3, -1)", x.shared(3, -1), -2);
        Check.refused(x, 0, 2, 0, 1, 1);
        Check.says("-4 1; -6 3; -1");
        Check.due("dealt(0, 1)", x.dealt(0, 1), -4);
        Check.due("dealt(4, -1)", x.dealt(4, -1), -6);
        Check.due("dealt(1, 1)", x.dealt(1, 1), -1);
        Check.due("dealt(3, -1)", x.dealt(3, -1), -1);
        Check.refused(x, 2, 2, 0, 2, 2);
    }
}
