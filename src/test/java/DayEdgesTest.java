/** Promises 22 to 31, 33 and Terms 3: each sentence that names a boundary of COURTS, rules, SLOTS and their times. */
public final class DayEdgesTest {
    private static final Check CHECK = new Check("DayEdgesTest");
    private static final int[] FAR = {Integer.MIN_VALUE, -3000, 200000, Integer.MAX_VALUE};
    private static final int LAST_MINUTE = 100000;

    public static void main(String[] args) {
        courtsNoughtToFive();
        courtWorths();
        courtOpens();
        courtAgain();
        rulesFromNought();
        darkIsAMinute();
        rainIsNew();
        slotsNoughtToFive();
        slotsTakeMatches();
        slotsTakeAMatchTwice();
        gapsOneToThousand();
        dropEachSlot();
        heldOfNone();
        timeOfNone();
        beginOnACourt();
        endOfForetold();
        endOfGaps();
        beginBehindRealEnds();
        beginBehindFeeders();
        beginBehindSharedPlayers();
        orderOfSlots();
        cantBeEnded();
        cantBeTwice();
        cantBeOfNoLaidDraw();
        cantBeOfUnknownSides();
        cantBeInRain();
        cantBeInTheDark();
        cantBeCountsNothing();
        overEachMinute();
        endOfNone();
        worthOfEachMatch();
        CHECK.finish();
    }

    private static void dueTime(String what, CourtDraws x, int c, int k, int begin, int end) {
        CHECK.due(what + ": BEGIN", x.time(c, k, 0), begin);
        CHECK.due(what + ": END", x.time(c, k, 1), end);
    }

    private static void dueCantBe(String what, CourtDraws x, int c, int k) {
        dueTime(what, x, c, k, -1, -1);
    }

    /** "COURTS are 0 to 5"; "NUMBER: there is no such COURT" */
    private static void courtsNoughtToFive() {
        CourtDraws x = new CourtDraws();
        for (int c = -2; c <= 7; c++) {
            boolean is = c >= 0 && c <= 5;
            CHECK.due("court(" + c + ")", x.court(c, true, true, 1, 700), is ? 1 : CourtDraws.NUMBER);
            CHECK.due("slot(" + c + ", 0)", x.slot(c, 0), is ? 0 : CourtDraws.NUMBER);
            CHECK.due("gap(" + c + ", 9)", x.gap(c, 9), is ? 1 : CourtDraws.NUMBER);
            CHECK.due("held(" + c + ", 1)", x.held(c, 1), is ? -9 : -2000);
            CHECK.due("time(" + c + ", 1, 0)", x.time(c, 1, 0), is ? 700 : -2);
            CHECK.due("drop(" + c + ", 0)", x.drop(c, 0), is ? 1 : CourtDraws.NUMBER);
            CHECK.due("fitted(" + c + ", 0)", x.fitted(c, 0), -1);
        }
        for (int c : FAR) {
            CHECK.due("court(" + c + ")", x.court(c, true, true, 1, 700), CourtDraws.NUMBER);
            CHECK.due("slot(" + c + ", 0)", x.slot(c, 0), CourtDraws.NUMBER);
            CHECK.due("gap(" + c + ", 9)", x.gap(c, 9), CourtDraws.NUMBER);
            CHECK.due("held(" + c + ", 0)", x.held(c, 0), -2000);
            CHECK.due("time(" + c + ", 0, 0)", x.time(c, 0, 0), -2);
            CHECK.due("drop(" + c + ", 0)", x.drop(c, 0), CourtDraws.NUMBER);
            CHECK.due("fitted(" + c + ", 0)", x.fitted(c, 0), -1);
        }
    }

    /** "a WORTH (0 to 99; 0 at first)"; "worth isn't 0 to 99" */
    private static void courtWorths() {
        CourtDraws x = new CourtDraws();
        for (int worth = -2; worth <= 101; worth++) {
            boolean may = worth >= 0 && worth <= 99;
            CHECK.due("worth " + worth, x.court(5, false, false, worth, 600), may ? 1 : CourtDraws.NUMBER);
        }
        for (int far : FAR) {
            CHECK.due("worth " + far, x.court(5, false, false, far, 600), CourtDraws.NUMBER);
        }
        CourtDraws y = Scenes.four(2);
        y.court(2, false, false, 98, 600);
        y.court(4, false, false, 99, 600);
        CHECK.due("99 is more than 98", y.fitted(4, 0), 0);
        CHECK.due("98 is next", y.fitted(2, 0), 1);
        y.court(2, false, false, 99, 600);
        CHECK.due("of like ones the lesser", y.fitted(2, 0), 0);
        y.court(4, false, false, 0, 600);
        y.court(2, false, false, 0, 600);
        CHECK.due("0 is as at first", y.fitted(0, 0), 0);
    }

    /** "OPENS at a MINUTE (600 at first)"; "MINUTES are 0 to 100000"; "or opens no MINUTE" */
    private static void courtOpens() {
        CourtDraws x = new CourtDraws();
        for (int c = 0; c < 6; c++) {
            x.gap(c, 1);
            dueTime("600 at first", x, c, 0, 600, 601);
        }
        CHECK.due("opens 0", x.court(3, false, false, 0, 0), 1);
        dueTime("from MINUTE 0 on", x, 3, 0, 0, 1);
        CHECK.due("opens -1", x.court(3, true, true, 0, -1), CourtDraws.NUMBER);
        CHECK.due("opens 100000", x.court(3, true, false, 0, LAST_MINUTE), 1);
        dueTime("from the last MINUTE on", x, 3, 0, LAST_MINUTE, LAST_MINUTE + 1);
        CHECK.due("opens 100001", x.court(3, false, false, 0, LAST_MINUTE + 1), CourtDraws.NUMBER);
        for (int far : FAR) {
            CHECK.due("opens " + far, x.court(3, false, false, 0, far), CourtDraws.NUMBER);
        }
        dueTime("as taken last", x, 3, 0, LAST_MINUTE, LAST_MINUTE + 1);
        dueTime("another COURT", x, 2, 0, 600, 601);
    }

    /** "A COURT: COVERED, LIT, its WORTH, when it OPENS": all of it anew, but its SLOTS stay. */
    private static void courtAgain() {
        CourtDraws x = new CourtDraws();
        x.gap(0, 800);
        dueCantBe("neither LIT nor COVERED", x, 0, 0);
        x.court(0, false, true, 0, 600);
        dueTime("LIT", x, 0, 0, 600, 1400);
        x.court(0, true, false, 0, 610);
        dueTime("COVERED", x, 0, 0, 610, 1410);
        x.court(0, false, false, 0, 500);
        dueTime("neither again", x, 0, 0, 500, 1300);
        x.rain(true);
        dueCantBe("not COVERED any more", x, 0, 0);
        CHECK.due("its SLOT", x.held(0, 0), -800);
    }

    /** "v isn't 0 to 2000"; "another what" */
    private static void rulesFromNought() {
        int[] first = {60, 90, 150};
        CourtDraws x = new CourtDraws();
        for (int what = 0; what < 3; what++) {
            CHECK.due("0", x.rule(what, 0), first[what]);
            CHECK.due("-1", x.rule(what, -1), CourtDraws.NUMBER);
            CHECK.due("2000", x.rule(what, 2000), 0);
            CHECK.due("2001", x.rule(what, 2001), CourtDraws.NUMBER);
            CHECK.due("a MINUTE alone is not enough", x.rule(what, LAST_MINUTE), CourtDraws.NUMBER);
            for (int far : FAR) {
                CHECK.due("rule(" + what + ", " + far + ")", x.rule(what, far), CourtDraws.NUMBER);
                CHECK.due("rule(" + far + ", 5)", x.rule(far, 5), CourtDraws.NUMBER);
            }
            CHECK.due("what it was", x.rule(what, first[what]), 2000);
        }
        CHECK.due("rule(-1, 5)", x.rule(-1, 5), CourtDraws.NUMBER);
        CHECK.due("rule(4, 5)", x.rule(4, 5), CourtDraws.NUMBER);
        for (int what = 0; what < 3; what++) {
            CHECK.due("each its own", x.rule(what, 1), first[what]);
        }
        CHECK.due("DARK, too", x.rule(3, 1), 1300);
    }

    /** "(DARK: no MINUTE)" */
    private static void darkIsAMinute() {
        CourtDraws x = new CourtDraws();
        CHECK.due("0", x.rule(3, 0), 1300);
        CHECK.due("-1", x.rule(3, -1), CourtDraws.NUMBER);
        CHECK.due("2001", x.rule(3, 2001), 0);
        CHECK.due("100000", x.rule(3, LAST_MINUTE), 2001);
        CHECK.due("100001", x.rule(3, LAST_MINUTE + 1), CourtDraws.NUMBER);
        for (int far : FAR) {
            CHECK.due("rule(3, " + far + ")", x.rule(3, far), CourtDraws.NUMBER);
        }
        CHECK.due("what it was", x.rule(3, 1300), LAST_MINUTE);
    }

    /** "RAIN is on, or off: whether that is new."; "RAIN is off at first." */
    private static void rainIsNew() {
        CHECK.due("off at first", new CourtDraws().rain(false), false);
        CourtDraws x = new CourtDraws();
        CHECK.due("on", x.rain(true), true);
        CHECK.due("on again", x.rain(true), false);
        CHECK.due("on once more", x.rain(true), false);
        CHECK.due("off", x.rain(false), true);
        CHECK.due("off again", x.rain(false), false);
        CHECK.due("on anew", x.rain(true), true);
    }

    /** "SLOTS, 0 to 5, as they come"; "FULL" */
    private static void slotsNoughtToFive() {
        CourtDraws x = new CourtDraws();
        for (int c = 0; c < 6; c++) {
            for (int k = 0; k < 6; k++) {
                CHECK.due("empty", x.held(c, k), -2000);
                boolean match = (c + k) % 2 == 0;
                CHECK.due("the SLOT", match ? x.slot(c, 8 * c + k) : x.gap(c, 8 * c + k), k);
                CHECK.due("what is in it", x.held(c, k), match ? 8 * c + k : -8 * c - k);
            }
            CHECK.due("FULL of a MATCH", x.slot(c, 0), CourtDraws.FULL);
            CHECK.due("FULL of a GAP", x.gap(c, 1), CourtDraws.FULL);
            CHECK.due("there is no SLOT 6", x.held(c, 6), -2000);
            CHECK.due("one goes", x.drop(c, 0), 5);
            CHECK.due("room for one", x.slot(c, 0), 5);
            CHECK.due("and no more", x.slot(c, 0), CourtDraws.FULL);
        }
    }

    /** "match isn't 16 times 0 to 3 and 0 to 14": whether there is such a DRAW doesn't matter. */
    private static void slotsTakeMatches() {
        for (int match = -17; match <= 80; match++) {
            CourtDraws x = new CourtDraws();
            boolean may = match >= 0 && match < 64 && match % 16 != 15;
            CHECK.due("slot(0, " + match + ")", x.slot(0, match), may ? 0 : CourtDraws.NUMBER);
            CHECK.due("held", x.held(0, 0), may ? match : -2000);
        }
        for (int far : FAR) {
            CHECK.due("slot(0, " + far + ")", new CourtDraws().slot(0, far), CourtDraws.NUMBER);
        }
    }

    /** No refusal is named for a MATCH that stands in a SLOT already. */
    private static void slotsTakeAMatchTwice() {
        CourtDraws x = Scenes.four(2);
        CHECK.due("once", x.slot(0, 1), 0);
        CHECK.due("twice", x.slot(0, 1), 1);
        CHECK.due("on another COURT", x.slot(1, 1), 0);
    }

    /** "minutes isn't 1 to 1000"; "a GAP, of that many MINUTES less than 0" */
    private static void gapsOneToThousand() {
        int[] may = {1, 2, 999, 1000};
        for (int minutes : may) {
            CourtDraws x = new CourtDraws();
            CHECK.due("gap(5, " + minutes + ")", x.gap(5, minutes), 0);
            CHECK.due("held", x.held(5, 0), -minutes);
        }
        int[] mayNot = {0, -1, -1000, 1001, 2000, Integer.MIN_VALUE, Integer.MAX_VALUE};
        for (int minutes : mayNot) {
            CourtDraws x = new CourtDraws();
            CHECK.due("gap(5, " + minutes + ")", x.gap(5, minutes), CourtDraws.NUMBER);
            CHECK.due("held", x.held(5, 0), -2000);
        }
    }

    /** "SLOT k of a COURT goes; those behind it move up: how many it has. NUMBER: there is none such." */
    private static void dropEachSlot() {
        for (int gone = 0; gone < 6; gone++) {
            CourtDraws x = new CourtDraws();
            for (int i = 1; i <= 6; i++) {
                x.gap(2, i);
                x.gap(3, i);
            }
            CHECK.due("drop(2, -1)", x.drop(2, -1), CourtDraws.NUMBER);
            CHECK.due("drop(2, 6)", x.drop(2, 6), CourtDraws.NUMBER);
            CHECK.due("drop(2, " + gone + ")", x.drop(2, gone), 5);
            for (int k = 0; k < 5; k++) {
                CHECK.due("held(2, " + k + ")", x.held(2, k), k < gone ? -k - 1 : -k - 2);
            }
            CHECK.due("the last one is none any more", x.held(2, 5), -2000);
            CHECK.due("nor to be dropped", x.drop(2, 5), CourtDraws.NUMBER);
            CHECK.due("another COURT's stay", x.held(3, 5), -6);
            for (int many = 4; many >= 0; many--) {
                CHECK.due("the last one", x.drop(2, many), many);
            }
            CHECK.due("the empty COURT", x.drop(2, 0), CourtDraws.NUMBER);
            CHECK.due("the first SLOT again", x.slot(2, 5), 0);
        }
    }

    /** "-2000: there is none such" */
    private static void heldOfNone() {
        CourtDraws x = new CourtDraws();
        x.slot(1, 0);
        CHECK.due("MATCH 0", x.held(1, 0), 0);
        CHECK.due("one behind", x.held(1, 1), -2000);
        CHECK.due("one ahead", x.held(1, -1), -2000);
        for (int far : FAR) {
            CHECK.due("held(1, " + far + ")", x.held(1, far), -2000);
        }
    }

    /** "-2: there is none such, another what" */
    private static void timeOfNone() {
        CourtDraws x = new CourtDraws();
        x.gap(1, 5);
        x.slot(1, 0);
        CHECK.due("what = -1", x.time(1, 0, -1), -2);
        CHECK.due("what = 0", x.time(1, 0, 0), 600);
        CHECK.due("what = 1", x.time(1, 0, 1), 605);
        CHECK.due("what = 2", x.time(1, 0, 2), -2);
        CHECK.due("one that CAN'T BE is there", x.time(1, 1, 0), -1);
        CHECK.due("but of no other what", x.time(1, 1, 2), -2);
        CHECK.due("SLOT -1", x.time(1, -1, 0), -2);
        CHECK.due("SLOT 2 of two", x.time(1, 2, 0), -2);
        CHECK.due("a COURT without SLOTS", x.time(0, 0, 0), -2);
        for (int far : FAR) {
            CHECK.due("SLOT " + far, x.time(1, far, 0), -2);
            CHECK.due("what = " + far, x.time(1, 0, far), -2);
        }
        x.gap(0, 1);
        for (int k = 1; k < 6; k++) {
            x.gap(0, 1);
        }
        CHECK.due("SLOT 5", x.time(0, 5, 1), 606);
        CHECK.due("SLOT 6", x.time(0, 6, 1), -2);
    }

    /** "END of the SLOT ahead on that COURT (OPENS without one)" */
    private static void beginOnACourt() {
        CourtDraws x = new CourtDraws();
        int[] begins = {600, 601, 603, 606, 610, 615};
        for (int k = 0; k < 6; k++) {
            x.gap(5, k + 1);
            dueTime("SLOT " + k, x, 5, k, begins[k], begins[k] + k + 1);
        }
        x.drop(5, 0);
        dueTime("moved up", x, 5, 0, 600, 602);
        dueTime("those behind it, too", x, 5, 4, 614, 620);
    }

    /** "FORETOLD: how many MINUTES a MATCH takes: 90 of LENGTH 2, 150 of LENGTH 3 at first." */
    private static void endOfForetold() {
        CourtDraws x = Scenes.two();
        x.slot(0, 1);
        x.slot(1, 17);
        dueTime("LENGTH 2", x, 0, 0, 600, 690);
        dueTime("LENGTH 3", x, 1, 0, 600, 750);
        x.rule(1, 0);
        x.rule(2, 2000);
        dueTime("no MINUTES", x, 0, 0, 600, 600);
        dueCantBe("2000 MINUTES", x, 1, 0);
        x.rule(3, LAST_MINUTE);
        dueTime("2000 MINUTES by daylight", x, 1, 0, 600, 2600);
        x.rule(1, 2000);
        x.rule(2, 0);
        dueTime("LENGTH 2", x, 0, 0, 600, 2600);
        dueTime("LENGTH 3", x, 1, 0, 600, 600);
    }

    /** "END is BEGIN and the GAP's MINUTES": REST and REAL ENDS are no matter of a GAP. */
    private static void endOfGaps() {
        CourtDraws x = Scenes.two();
        x.walk(0, 0);
        x.over(0, 1000);
        x.gap(0, 1);
        x.gap(0, 1000);
        x.slot(1, 1);
        x.gap(1, 5);
        dueTime("one MINUTE", x, 0, 0, 600, 601);
        dueCantBe("a thousand, till behind DARK", x, 0, 1);
        x.rule(3, 1601);
        dueTime("a thousand", x, 0, 1, 601, 1601);
        dueTime("at once behind a MATCH", x, 1, 1, 690, 695);
    }

    /** "of each PLAYER on its SIDES that is known the REAL END, and REST more, of its MATCHES that have one" */
    private static void beginBehindRealEnds() {
        CourtDraws x = Scenes.two();
        x.walk(0, 0);
        x.slot(0, 16);
        dueTime("none told yet", x, 0, 0, 600, 750);
        x.over(0, 540);
        dueTime("no later than OPENS", x, 0, 0, 600, 750);
        x.over(0, 541);
        dueTime("a MINUTE later: SIDE 0's", x, 0, 0, 601, 751);
        x.rule(0, 0);
        dueTime("without REST", x, 0, 0, 600, 750);
        x.rule(3, LAST_MINUTE);
        x.over(0, LAST_MINUTE - 150);
        dueTime("till the last MINUTE", x, 0, 0, LAST_MINUTE - 150, LAST_MINUTE);
        x.over(0, LAST_MINUTE);
        x.rule(0, 2000);
        dueCantBe("beyond it", x, 0, 0);
        x.court(0, false, true, 0, 0);
        dueTime("beyond it, LIT", x, 0, 0, LAST_MINUTE + 2000, LAST_MINUTE + 2150);
        CourtDraws y = Scenes.two();
        y.walk(0, 1);
        y.walk(1, 1);
        y.slot(0, 2);
        y.over(1, 600);
        dueTime("SIDE 1's", y, 0, 0, 660, 750);
        y.over(0, 601);
        dueTime("the greater one", y, 0, 0, 661, 751);
        y.over(0, 0);
        dueTime("MINUTE 0 counts, but is less", y, 0, 0, 660, 750);
        y.walk(16, 0);
        y.over(16, 602);
        dueTime("of another DRAW", y, 0, 0, 662, 752);
        y.undo(16);
        dueTime("undone", y, 0, 0, 660, 750);
        CourtDraws z = Scenes.two();
        z.walk(0, 1);
        z.over(0, 800);
        z.slot(0, 1);
        z.slot(0, 2);
        dueTime("one SIDE known, the other fed by a SLOT", z, 0, 1, 860, 950);
    }

    /** "END, and REST more, of each SLOT ahead in this order with a MATCH that feeds it" */
    private static void beginBehindFeeders() {
        CourtDraws x = Scenes.two();
        x.slot(0, 0);
        x.slot(1, 1);
        x.slot(2, 2);
        dueTime("on three COURTS", x, 2, 0, 750, 840);
        x.court(1, false, false, 0, 700);
        dueTime("the later feeder", x, 2, 0, 850, 940);
        x.court(0, false, false, 0, 800);
        dueTime("the other one", x, 2, 0, 950, 1040);
        x.rule(0, 0);
        dueTime("without REST", x, 2, 0, 890, 980);
        CourtDraws y = new CourtDraws();
        Scenes.fill(y, 0, 8, 2, 0, 8);
        y.lay(0, 0);
        for (int match = 0; match < 6; match++) {
            y.slot(match, match);
        }
        y.slot(0, 6);
        dueTime("a MATCH of round 1", y, 4, 0, 750, 840);
        dueTime("one of round 2 behind it", y, 0, 1, 900, 990);
    }

    /** "or on one of whose known SIDES a PLAYER of its known SIDES stands" */
    private static void beginBehindSharedPlayers() {
        CourtDraws x = Scenes.two();
        x.slot(0, 0);
        x.slot(1, 16);
        dueTime("8 on SIDE 1, then on SIDE 0", x, 1, 0, 750, 900);
        x.slot(0, 17);
        dueTime("nobody shared", x, 0, 1, 690, 840);
        x.drop(0, 0);
        x.slot(2, 0);
        dueTime("on SIDE 0, then on SIDE 1", x, 2, 0, 810, 900);
        CourtDraws y = Scenes.two();
        Scenes.fill(y, 2, 4, 2, 5, 4);
        y.seeds(2, 4);
        y.lay(2, 0);
        y.slot(0, 1);
        y.slot(1, 33);
        dueTime("both PLAYERS shared", y, 1, 0, 750, 840);
        y.slot(2, 32);
        dueTime("of like DRAWS others", y, 2, 0, 600, 690);
        CourtDraws z = Scenes.two();
        z.walk(1, 0);
        Scenes.fill(z, 2, 4, 2, 7, 1);
        z.enter(2, 30);
        z.enter(2, 31);
        z.enter(2, 32);
        z.seeds(2, 4);
        z.lay(2, 0);
        z.slot(0, 0);
        z.slot(0, 2);
        z.slot(1, 33);
        z.slot(1, 32);
        dueTime("a known SIDE of one that isn't all known", z, 0, 1, 750, 840);
        dueTime("7 stands on it", z, 1, 1, 900, 990);
    }

    /** "SLOTS 0 of all COURTS, from COURT 0 on, then SLOTS 1, and so on" */
    private static void orderOfSlots() {
        CourtDraws x = Scenes.two();
        x.slot(5, 0);
        x.gap(0, 1);
        x.slot(0, 16);
        dueTime("SLOT 0 of COURT 5 goes first", x, 5, 0, 600, 690);
        dueTime("SLOT 1 of COURT 0 comes behind it", x, 0, 1, 750, 900);
        x.drop(0, 0);
        dueTime("SLOT 0 of COURT 0 goes ahead now", x, 0, 0, 600, 750);
        dueTime("and COURT 5 waits", x, 5, 0, 810, 900);
        CourtDraws y = Scenes.two();
        y.slot(4, 2);
        y.slot(4, 0);
        y.slot(5, 1);
        dueCantBe("its feeders stand behind it", y, 4, 0);
        y.slot(0, 30);
        y.slot(0, 2);
        dueCantBe("one of them still does", y, 0, 1);
        y.slot(0, 2);
        dueTime("both ahead", y, 0, 2, 750, 840);
    }

    /** "if its MATCH (of a GAP these don't matter) is ENDED" */
    private static void cantBeEnded() {
        CourtDraws x = Scenes.two();
        x.slot(0, 0);
        x.slot(1, 1);
        x.point(0, 0);
        x.point(1, 0);
        dueTime("with POINTS it can", x, 0, 0, 600, 690);
        x.retire(0, 0);
        dueCantBe("RETIRED", x, 0, 0);
        x.undo(0);
        dueTime("undone", x, 0, 0, 600, 690);
        x.back(1);
        x.walk(1, 0);
        dueCantBe("walked over", x, 1, 0);
        x.undo(1);
        Scenes.games(x, 1, "000000000000");
        dueCantBe("by POINTS", x, 1, 0);
        x.back(1);
        dueTime("taken back", x, 1, 0, 600, 690);
        CourtDraws y = Scenes.three();
        y.slot(0, 0);
        y.slot(0, 1);
        dueCantBe("of a BYE", y, 0, 0);
        dueTime("beside it", y, 0, 1, 600, 690);
    }

    /** "stands in a SLOT ahead in this order that can be" */
    private static void cantBeTwice() {
        CourtDraws x = Scenes.two();
        x.slot(2, 0);
        x.slot(2, 0);
        x.slot(1, 0);
        dueTime("the first in order", x, 1, 0, 600, 690);
        dueCantBe("on a later COURT", x, 2, 0);
        dueCantBe("in a later SLOT", x, 2, 1);
        x.court(1, false, false, 0, 1211);
        dueCantBe("it can't be", x, 1, 0);
        dueTime("so the next one can", x, 2, 0, 600, 690);
        dueCantBe("and the last one can't", x, 2, 1);
        x.drop(2, 0);
        x.drop(1, 0);
        dueTime("alone", x, 2, 0, 600, 690);
    }

    /** "isn't of a LAID DRAW" */
    private static void cantBeOfNoLaidDraw() {
        CourtDraws x = new CourtDraws();
        x.slot(0, 48);
        x.slot(0, 51);
        x.slot(0, 62);
        dueCantBe("no DRAW", x, 0, 0);
        Scenes.fill(x, 3, 4, 2, 0, 4);
        dueCantBe("not LAID", x, 0, 0);
        x.lay(3, 0);
        dueTime("LAID", x, 0, 0, 600, 690);
        dueCantBe("beyond its last MATCH", x, 0, 1);
        dueCantBe("far beyond", x, 0, 2);
        x.draw(3, 4, 2);
        dueCantBe("a new DRAW", x, 0, 0);
    }

    /** "has a SIDE that isn't known and is fed by no SLOT ahead in this order that can be" */
    private static void cantBeOfUnknownSides() {
        for (int known = 0; known < 2; known++) {
            CourtDraws x = Scenes.two();
            x.slot(1, 2);
            dueCantBe("neither SIDE", x, 1, 0);
            x.walk(known, 0);
            dueCantBe("one SIDE is known", x, 1, 0);
            x.undo(known);
            x.slot(0, known);
            dueCantBe("one SIDE is fed", x, 1, 0);
            x.walk(1 - known, 0);
            dueTime("one SIDE known, one fed", x, 1, 0, 750, 840);
            x.court(0, false, false, 0, 1211);
            dueCantBe("what feeds it can't be", x, 1, 0);
            x.court(0, false, false, 0, 1060);
            dueTime("behind it, till DARK", x, 1, 0, 1210, 1300);
            x.court(0, false, false, 0, 1061);
            dueCantBe("behind it, beyond DARK", x, 1, 0);
        }
        CourtDraws y = new CourtDraws();
        Scenes.fill(y, 0, 8, 2, 0, 8);
        y.lay(0, 0);
        y.slot(0, 0);
        y.slot(1, 1);
        y.slot(2, 6);
        dueCantBe("fed by those ahead of the last round", y, 2, 0);
        y.slot(3, 5);
        dueCantBe("fed by the wrong ones", y, 3, 0);
        y.slot(4, 4);
        dueTime("fed by the right ones", y, 4, 0, 750, 840);
    }

    /** "if RAIN is on, and the COURT isn't COVERED (a GAP, too)" */
    private static void cantBeInRain() {
        CourtDraws x = Scenes.two();
        x.court(1, true, false, 0, 600);
        x.court(2, false, true, 0, 600);
        for (int c = 0; c < 3; c++) {
            x.gap(c, 10);
        }
        x.slot(0, 0);
        x.slot(1, 1);
        x.rain(true);
        dueCantBe("a GAP", x, 0, 0);
        dueCantBe("a MATCH", x, 0, 1);
        dueTime("a GAP on a COVERED one", x, 1, 0, 600, 610);
        dueTime("a MATCH on a COVERED one", x, 1, 1, 610, 700);
        dueCantBe("LIT doesn't help", x, 2, 0);
        x.rain(false);
        dueTime("a GAP again", x, 0, 0, 600, 610);
        dueTime("a MATCH again", x, 0, 1, 610, 700);
        dueTime("LIT again", x, 2, 0, 600, 610);
    }

    /** "or if its END is beyond DARK, and the COURT is neither LIT nor COVERED (a GAP, too)" */
    private static void cantBeInTheDark() {
        for (int late = 0; late < 2; late++) {
            CourtDraws x = Scenes.two();
            x.rule(3, 700);
            for (int c = 0; c < 4; c++) {
                x.court(c, c % 2 == 1, c / 2 == 1, 0, 610 + late);
                x.gap(c, 90);
                dueTime("a GAP, COURT " + c, x, c, 0, c == 0 && late == 1 ? -1 : 610 + late,
                    c == 0 && late == 1 ? -1 : 700 + late);
            }
            x.court(4, false, false, 0, 610 + late);
            x.slot(4, 0);
            dueTime("a MATCH", x, 4, 0, late == 1 ? -1 : 610, late == 1 ? -1 : 700);
        }
        CourtDraws y = new CourtDraws();
        y.rule(3, 0);
        y.court(0, false, false, 0, 0);
        y.gap(0, 1);
        dueCantBe("DARK from the first MINUTE on", y, 0, 0);
        y.rule(3, 1);
        dueTime("a MINUTE of light", y, 0, 0, 0, 1);
        y.rule(3, LAST_MINUTE);
        y.court(0, false, false, 0, LAST_MINUTE - 1);
        dueTime("till the last MINUTE", y, 0, 0, LAST_MINUTE - 1, LAST_MINUTE);
        y.court(0, false, false, 0, LAST_MINUTE);
        dueCantBe("beyond it", y, 0, 0);
        CourtDraws z = Scenes.four(2);
        z.rule(1, 0);
        z.rule(3, 600);
        z.slot(0, 0);
        dueTime("no MINUTES till DARK", z, 0, 0, 600, 600);
        z.rule(3, 599);
        dueCantBe("it BEGINS beyond DARK", z, 0, 0);
    }

    /** "(it counts nothing for those behind it; on its COURT the last one that can be is the one ahead)" */
    private static void cantBeCountsNothing() {
        CourtDraws x = Scenes.two();
        x.slot(0, 18);
        x.slot(0, 0);
        x.slot(0, 2);
        x.gap(0, 10);
        dueCantBe("not known", x, 0, 0);
        dueTime("as if it were the first", x, 0, 1, 600, 690);
        dueCantBe("half known", x, 0, 2);
        dueTime("behind the last that can be", x, 0, 3, 690, 700);
        x.slot(1, 16);
        dueTime("one ahead that can be shares 8", x, 1, 0, 600, 750);
        dueTime("so this waits", x, 0, 1, 810, 900);
        x.court(1, false, false, 0, 1151);
        dueCantBe("its END is beyond DARK", x, 1, 0);
        dueTime("and this waits no more", x, 0, 1, 600, 690);
        x.court(1, false, false, 0, 1150);
        dueTime("its END is DARK", x, 1, 0, 1150, 1300);
        dueCantBe("and this waits too long", x, 0, 1);
        dueTime("the GAP comes first then", x, 0, 3, 600, 610);
        CourtDraws y = Scenes.two();
        y.court(0, false, false, 0, 1211);
        y.court(1, false, false, 0, 0);
        y.slot(0, 0);
        y.slot(1, 16);
        dueCantBe("8 would play till behind DARK", y, 0, 0);
        dueTime("and may play at once, from MINUTE 0 on", y, 1, 0, 0, 150);
    }

    /** "A MATCH's REAL END is told: 1."; "or it is no MINUTE"; "ENDED: it isn't ENDED" */
    private static void overEachMinute() {
        CourtDraws x = Scenes.two();
        CHECK.due("not ENDED", x.over(0, 0), CourtDraws.ENDED);
        x.walk(0, 0);
        CHECK.due("over(0, -1)", x.over(0, -1), CourtDraws.NUMBER);
        CHECK.due("none told", x.end(0), -1);
        CHECK.due("over(0, 0)", x.over(0, 0), 1);
        CHECK.due("MINUTE 0", x.end(0), 0);
        CHECK.due("over(0, 100000)", x.over(0, LAST_MINUTE), 1);
        CHECK.due("over(0, 100001)", x.over(0, LAST_MINUTE + 1), CourtDraws.NUMBER);
        for (int far : FAR) {
            CHECK.due("over(0, " + far + ")", x.over(0, far), CourtDraws.NUMBER);
            CHECK.due("over(" + far + ", 0)", x.over(far, 0), CourtDraws.NUMBER);
        }
        CHECK.due("the last MINUTE", x.end(0), LAST_MINUTE);
        CHECK.due("an earlier one again", x.over(0, 7), 1);
        CHECK.due("as told last", x.end(0), 7);
        int[] none = {-1, 3, 15, 19, 31, 32, 63, 64};
        for (int match : none) {
            CHECK.due("over(" + match + ", 5)", x.over(match, 5), CourtDraws.NUMBER);
        }
        Scenes.fill(x, 2, 4, 2, 20, 4);
        CHECK.due("not LAID", x.over(32, 5), CourtDraws.NUMBER);
        CourtDraws y = Scenes.three();
        CHECK.due("of a BYE", y.over(0, 5), 1);
        CHECK.due("told", y.end(0), 5);
    }

    /** "-1 if none was told, or it isn't ENDED" */
    private static void endOfNone() {
        CourtDraws x = Scenes.two();
        x.walk(17, 0);
        x.over(17, 9);
        int[] none = {-1, 0, 2, 3, 15, 16, 18, 19, 31, 32, 63, 64};
        for (int match : none) {
            CHECK.due("end(" + match + ")", x.end(match), -1);
        }
        for (int far : FAR) {
            CHECK.due("end(" + far + ")", x.end(far), -1);
        }
        CHECK.due("end(17)", x.end(17), 9);
        x.walk(16, 0);
        CHECK.due("ENDED, none told", x.end(16), -1);
    }

    /** "match isn't 16 times 0 to 3 and 0 to 14, or worth not 0 to 999"; "(0 at first; it stays ...)" */
    private static void worthOfEachMatch() {
        CourtDraws x = new CourtDraws();
        for (int match = -17; match <= 80; match++) {
            boolean may = match >= 0 && match < 64 && match % 16 != 15;
            CHECK.due("worth(" + match + ", 1)", x.worth(match, 1), may ? 1 : CourtDraws.NUMBER);
        }
        for (int far : FAR) {
            CHECK.due("worth(" + far + ", 1)", x.worth(far, 1), CourtDraws.NUMBER);
            CHECK.due("worth(0, " + far + ")", x.worth(0, far), CourtDraws.NUMBER);
        }
        CourtDraws y = Scenes.two();
        CHECK.due("all 0: the lesser", y.fitted(0, 0), 0);
        CHECK.due("-1", y.worth(17, -1), CourtDraws.NUMBER);
        CHECK.due("0", y.worth(17, 0), 1);
        CHECK.due("no more than at first", y.fitted(0, 0), 0);
        CHECK.due("998", y.worth(16, 998), 1);
        CHECK.due("999", y.worth(17, 999), 1);
        CHECK.due("the greatest", y.fitted(0, 0), 17);
        CHECK.due("1000", y.worth(16, 1000), CourtDraws.NUMBER);
        CHECK.due("still the greatest", y.fitted(0, 0), 17);
        CHECK.due("the next", y.fitted(1, 0), 16);
        Scenes.fill(y, 1, 8, 2, 20, 8);
        CHECK.due("not LAID", y.fitted(0, 0), 0);
        y.lay(1, 0);
        CHECK.due("it stays", y.fitted(0, 0), 17);
        CHECK.due("and this", y.fitted(1, 0), 16);
    }
}
