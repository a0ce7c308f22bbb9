/** Promises 22 to 34: the day on COURTS. */
public final class DayTest {
    private static final Check CHECK = new Check("DayTest");
    private static final int[] NO_COURTS = {-1, 6, 7, Integer.MIN_VALUE, Integer.MAX_VALUE};
    private static final int[] NO_CODES = {-1, -16, 15, 31, 47, 63, 64, 65, 80, Integer.MIN_VALUE, Integer.MAX_VALUE};

    public static void main(String[] args) {
        promise22Court();
        promise23Rule();
        promise24Rain();
        promise25Slot();
        promise26Gap();
        promise27Drop();
        promise28Held();
        promise29TimesInOrder();
        promise29FedMatches();
        promise29CantBe();
        promise29Dark();
        promise29RealEnds();
        promise29Refusals();
        promise30Over();
        promise31End();
        promise32Why();
        promise32WhyOtherDraws();
        promise33Worth();
        promise34Fitted();
        promise34NoPlayerTwice();
        promise34LeavesOut();
        CHECK.finish();
    }

    private static void dueTime(CourtDraws x, int c, int k, int begin, int end) {
        CHECK.due("time(" + c + ", " + k + ", 0)", x.time(c, k, 0), begin);
        CHECK.due("time(" + c + ", " + k + ", 1)", x.time(c, k, 1), end);
    }

    private static void promise22Court() {
        CourtDraws x = Scenes.two();
        x.gap(5, 100);
        CHECK.due("court", x.court(5, true, false, 99, 100000), 1);
        dueTime(x, 5, 0, 100000, 100100);
        CHECK.due("court again", x.court(5, false, false, 0, 0), 1);
        dueTime(x, 5, 0, 0, 100);
        for (int c : NO_COURTS) {
            CHECK.due("court(" + c + ")", x.court(c, true, true, 1, 1), CourtDraws.NUMBER);
        }
        CHECK.due("worth 100", x.court(5, true, true, 100, 700), CourtDraws.NUMBER);
        CHECK.due("worth -1", x.court(5, true, true, -1, 700), CourtDraws.NUMBER);
        CHECK.due("opens 100001", x.court(5, true, true, 1, 100001), CourtDraws.NUMBER);
        CHECK.due("opens -1", x.court(5, true, true, 1, -1), CourtDraws.NUMBER);
        dueTime(x, 5, 0, 0, 100);
        CHECK.due("its SLOTS stay", x.held(5, 0), -100);
        x.rain(true);
        CHECK.due("refused: not COVERED by that", x.time(5, 0, 0), -1);
    }

    private static void promise23Rule() {
        CourtDraws x = Scenes.two();
        x.slot(0, 0);
        x.slot(0, 16);
        dueTime(x, 0, 1, 750, 900);
        CHECK.due("REST", x.rule(0, 0), 60);
        dueTime(x, 0, 1, 690, 840);
        CHECK.due("FORETOLD of LENGTH 2", x.rule(1, 10), 90);
        dueTime(x, 0, 0, 600, 610);
        dueTime(x, 0, 1, 610, 760);
        CHECK.due("FORETOLD of LENGTH 3", x.rule(2, 20), 150);
        dueTime(x, 0, 1, 610, 630);
        CHECK.due("DARK", x.rule(3, 629), 1300);
        dueTime(x, 0, 1, -1, -1);
        CHECK.due("DARK at the last MINUTE", x.rule(3, 100000), 629);
        CHECK.due("REST 2000", x.rule(0, 2000), 0);
        CHECK.due("FORETOLD 2000", x.rule(1, 2000), 10);
        CHECK.due("FORETOLD 2000 of LENGTH 3", x.rule(2, 2000), 20);
        dueTime(x, 0, 1, 4600, 6600);
        int[] whats = {-1, 4, 5, Integer.MIN_VALUE, Integer.MAX_VALUE};
        for (int what : whats) {
            CHECK.due("rule(" + what + ", 5)", x.rule(what, 5), CourtDraws.NUMBER);
        }
        for (int what = 0; what < 3; what++) {
            CHECK.due("rule(" + what + ", 2001)", x.rule(what, 2001), CourtDraws.NUMBER);
            CHECK.due("rule(" + what + ", -1)", x.rule(what, -1), CourtDraws.NUMBER);
        }
        CHECK.due("rule(3, 100001)", x.rule(3, 100001), CourtDraws.NUMBER);
        CHECK.due("rule(3, -1)", x.rule(3, -1), CourtDraws.NUMBER);
        CHECK.due("rule(3, 2001)", x.rule(3, 2001), 100000);
        CHECK.due("rule(0, 0) behind refusals", x.rule(0, 0), 2000);
        CHECK.due("rule(3, 0)", x.rule(3, 0), 2001);
        dueTime(x, 0, 0, -1, -1);
    }

    private static void promise24Rain() {
        CourtDraws x = new CourtDraws();
        x.gap(0, 10);
        CHECK.due("off, as it was", x.rain(false), false);
        CHECK.due("on", x.rain(true), true);
        CHECK.due("no GAP in the RAIN", x.time(0, 0, 0), -1);
        CHECK.due("on still", x.rain(true), false);
        CHECK.due("off", x.rain(false), true);
        CHECK.due("dry", x.time(0, 0, 0), 600);
        CHECK.due("off still", x.rain(false), false);
    }

    private static void promise25Slot() {
        CourtDraws x = new CourtDraws();
        for (int c : NO_COURTS) {
            CHECK.due("slot(" + c + ", 0)", x.slot(c, 0), CourtDraws.NUMBER);
        }
        for (int match : NO_CODES) {
            CHECK.due("slot(0, " + match + ")", x.slot(0, match), CourtDraws.NUMBER);
        }
        CHECK.due("nothing came", x.held(0, 0), -2000);
        int[] matches = {0, 14, 16, 30, 62, 48};
        for (int k = 0; k < matches.length; k++) {
            CHECK.due("slot(0, " + matches[k] + ")", x.slot(0, matches[k]), k);
            CHECK.due("held", x.held(0, k), matches[k]);
        }
        CHECK.due("full", x.slot(0, 1), CourtDraws.FULL);
        CHECK.due("NUMBER ahead of FULL", x.slot(0, 15), CourtDraws.NUMBER);
        CHECK.due("nothing behind the last", x.held(0, 6), -2000);
        CHECK.due("another COURT has room", x.slot(5, 0), 0);
    }

    private static void promise26Gap() {
        CourtDraws x = new CourtDraws();
        for (int c : NO_COURTS) {
            CHECK.due("gap(" + c + ", 5)", x.gap(c, 5), CourtDraws.NUMBER);
        }
        int[] wrong = {0, -1, 1001, Integer.MIN_VALUE, Integer.MAX_VALUE};
        for (int minutes : wrong) {
            CHECK.due("gap(1, " + minutes + ")", x.gap(1, minutes), CourtDraws.NUMBER);
        }
        CHECK.due("gap(1, 1)", x.gap(1, 1), 0);
        CHECK.due("gap(1, 1000)", x.gap(1, 1000), 1);
        CHECK.due("slot among them", x.slot(1, 3), 2);
        for (int k = 3; k < 6; k++) {
            CHECK.due("gap(1, 5)", x.gap(1, 5), k);
        }
        CHECK.due("full", x.gap(1, 5), CourtDraws.FULL);
        CHECK.due("NUMBER ahead of FULL", x.gap(1, 0), CourtDraws.NUMBER);
        CHECK.due("held(1, 0)", x.held(1, 0), -1);
        CHECK.due("held(1, 1)", x.held(1, 1), -1000);
    }

    private static void promise27Drop() {
        CourtDraws x = new CourtDraws();
        CHECK.due("drop of none", x.drop(0, 0), CourtDraws.NUMBER);
        for (int i = 1; i <= 6; i++) {
            x.gap(0, i);
        }
        for (int c : NO_COURTS) {
            CHECK.due("drop(" + c + ", 0)", x.drop(c, 0), CourtDraws.NUMBER);
        }
        CHECK.due("drop(0, -1)", x.drop(0, -1), CourtDraws.NUMBER);
        CHECK.due("drop(0, 6)", x.drop(0, 6), CourtDraws.NUMBER);
        CHECK.due("the last", x.drop(0, 5), 5);
        CHECK.due("it is gone", x.held(0, 5), -2000);
        CHECK.due("drop(0, 5)", x.drop(0, 5), CourtDraws.NUMBER);
        CHECK.due("one in the middle", x.drop(0, 1), 4);
        int[] left = {-1, -3, -4, -5, -2000};
        for (int k = 0; k < left.length; k++) {
            CHECK.due("held(0, " + k + ")", x.held(0, k), left[k]);
        }
        CHECK.due("the first", x.drop(0, 0), 3);
        CHECK.due("moved up", x.held(0, 0), -3);
        CHECK.due("room again", x.slot(0, 7), 3);
        for (int many = 3; many >= 0; many--) {
            CHECK.due("drop(0, 0)", x.drop(0, 0), many);
        }
        CHECK.due("none any more", x.drop(0, 0), CourtDraws.NUMBER);
    }

    private static void promise28Held() {
        CourtDraws x = new CourtDraws();
        x.slot(3, 0);
        x.gap(3, 1);
        CHECK.due("a MATCH", x.held(3, 0), 0);
        CHECK.due("a GAP", x.held(3, 1), -1);
        CHECK.due("none such", x.held(3, 2), -2000);
        CHECK.due("held(3, -1)", x.held(3, -1), -2000);
        CHECK.due("held(3, 6)", x.held(3, 6), -2000);
        for (int c : NO_COURTS) {
            CHECK.due("held(" + c + ", 0)", x.held(c, 0), -2000);
        }
    }

    private static void promise29TimesInOrder() {
        CourtDraws x = Scenes.two();
        x.court(2, false, false, 0, 640);
        x.slot(0, 0);
        x.slot(1, 16);
        x.slot(0, 17);
        x.gap(2, 5);
        dueTime(x, 0, 0, 600, 690);
        dueTime(x, 1, 0, 750, 900);
        dueTime(x, 0, 1, 690, 840);
        dueTime(x, 2, 0, 640, 645);
        x.slot(1, 18);
        dueTime(x, 1, 1, 960, 1110);
        x.drop(1, 0);
        dueTime(x, 1, 0, -1, -1);
        x.drop(1, 0);
        x.drop(0, 0);
        x.slot(2, 16);
        x.slot(3, 0);
        dueTime(x, 0, 0, 600, 750);
        dueTime(x, 3, 0, 600, 690);
        dueTime(x, 2, 1, 750, 900);
        x.drop(2, 0);
        dueTime(x, 2, 0, 640, 790);
        dueTime(x, 3, 0, 850, 940);
    }

    private static void promise29FedMatches() {
        CourtDraws x = Scenes.two();
        x.slot(0, 18);
        x.slot(1, 16);
        x.slot(2, 17);
        dueTime(x, 0, 0, -1, -1);
        x.slot(0, 18);
        dueTime(x, 1, 0, 600, 750);
        dueTime(x, 2, 0, 600, 750);
        dueTime(x, 0, 1, 810, 960);
        x.drop(2, 0);
        dueTime(x, 0, 1, -1, -1);
        x.walk(17, 1);
        dueTime(x, 0, 1, 810, 960);
        dueTime(x, 0, 0, -1, -1);
        x.walk(16, 1);
        dueTime(x, 0, 0, 600, 750);
        dueTime(x, 0, 1, -1, -1);
        dueTime(x, 1, 0, -1, -1);
        x.undo(16);
        x.slot(3, 0);
        x.rule(0, 7);
        dueTime(x, 3, 0, 757, 847);
        dueTime(x, 0, 1, 757, 907);
    }

    private static void promise29CantBe() {
        CourtDraws x = Scenes.two();
        x.slot(0, 0);
        x.slot(1, 0);
        dueTime(x, 0, 0, 600, 690);
        dueTime(x, 1, 0, -1, -1);
        x.slot(1, 1);
        dueTime(x, 1, 1, 600, 690);
        x.court(1, true, false, 0, 610);
        x.rain(true);
        dueTime(x, 0, 0, -1, -1);
        dueTime(x, 1, 0, 610, 700);
        dueTime(x, 1, 1, 700, 790);
        x.slot(1, 2);
        dueTime(x, 1, 2, 850, 940);
        x.slot(0, 16);
        x.slot(1, 18);
        dueTime(x, 1, 3, -1, -1);
        x.rain(false);
        dueTime(x, 0, 1, 750, 900);
        x.walk(0, 0);
        dueTime(x, 0, 0, -1, -1);
        dueTime(x, 0, 1, 600, 750);
        dueTime(x, 1, 1, 610, 700);
        x.slot(2, 32);
        dueTime(x, 2, 0, -1, -1);
        Scenes.fill(x, 2, 4, 2, 20, 4);
        dueTime(x, 2, 0, -1, -1);
        x.lay(2, 0);
        dueTime(x, 2, 0, 600, 690);
        x.slot(2, 35);
        dueTime(x, 2, 1, -1, -1);
        x.slot(2, 46);
        dueTime(x, 2, 2, -1, -1);
        x.point(32, 1);
        dueTime(x, 2, 0, 600, 690);
        Scenes.fill(x, 3, 4, 2, 20, 3);
        x.seeds(3, 3);
        x.lay(3, 0);
        x.slot(2, 48);
        dueTime(x, 2, 3, -1, -1);
    }

    private static void promise29Dark() {
        CourtDraws x = Scenes.two();
        x.court(0, false, false, 0, 1210);
        x.court(1, false, true, 0, 1211);
        x.court(2, true, false, 0, 1212);
        x.court(3, false, false, 0, 1211);
        x.slot(0, 0);
        dueTime(x, 0, 0, 1210, 1300);
        x.drop(0, 0);
        x.slot(1, 0);
        dueTime(x, 1, 0, 1211, 1301);
        x.slot(2, 1);
        dueTime(x, 2, 0, 1212, 1302);
        x.gap(3, 90);
        dueTime(x, 3, 0, -1, -1);
        x.gap(3, 89);
        dueTime(x, 3, 1, 1211, 1300);
        x.drop(1, 0);
        x.slot(3, 0);
        dueTime(x, 3, 2, -1, -1);
        x.slot(1, 0);
        dueTime(x, 1, 0, 1211, 1301);
        x.rule(3, 100000);
        dueTime(x, 3, 0, 1211, 1301);
        dueTime(x, 3, 1, 1301, 1390);
        dueTime(x, 3, 2, -1, -1);
    }

    private static void promise29RealEnds() {
        CourtDraws x = Scenes.two();
        x.slot(0, 16);
        x.slot(1, 2);
        x.slot(1, 17);
        dueTime(x, 0, 0, 600, 750);
        x.walk(0, 0);
        x.over(0, 700);
        dueTime(x, 0, 0, 760, 910);
        x.walk(1, 0);
        x.over(1, 710);
        dueTime(x, 1, 0, 770, 860);
        dueTime(x, 1, 1, 860, 1010);
        x.over(1, 400);
        dueTime(x, 1, 0, 760, 850);
        x.undo(0);
        dueTime(x, 0, 0, 600, 750);
        dueTime(x, 1, 0, -1, -1);
        x.slot(2, 0);
        x.slot(2, 2);
        dueTime(x, 2, 0, 810, 900);
        dueTime(x, 2, 1, 960, 1050);
        x.over(1, 950);
        dueTime(x, 2, 1, 1010, 1100);
        x.rule(0, 0);
        dueTime(x, 2, 0, 750, 840);
        dueTime(x, 2, 1, 950, 1040);
    }

    private static void promise29Refusals() {
        CourtDraws x = Scenes.two();
        x.slot(4, 0);
        for (int c : NO_COURTS) {
            CHECK.due("time(" + c + ", 0, 0)", x.time(c, 0, 0), -2);
        }
        CHECK.due("time(4, 1, 0)", x.time(4, 1, 0), -2);
        CHECK.due("time(4, -1, 0)", x.time(4, -1, 0), -2);
        CHECK.due("time(4, 6, 0)", x.time(4, 6, 0), -2);
        CHECK.due("time(4, 0, 2)", x.time(4, 0, 2), -2);
        CHECK.due("time(4, 0, -1)", x.time(4, 0, -1), -2);
        CHECK.due("time(3, 0, 0)", x.time(3, 0, 0), -2);
    }

    private static void promise30Over() {
        CourtDraws x = Scenes.two();
        CHECK.due("not ENDED", x.over(0, 700), CourtDraws.ENDED);
        CHECK.due("NUMBER ahead of ENDED", x.over(0, -1), CourtDraws.NUMBER);
        CHECK.due("not known", x.over(2, 700), CourtDraws.ENDED);
        x.walk(0, 0);
        CHECK.due("no MINUTE", x.over(0, 100001), CourtDraws.NUMBER);
        CHECK.due("no MINUTE below 0", x.over(0, -1), CourtDraws.NUMBER);
        CHECK.due("none told by that", x.end(0), -1);
        CHECK.due("MINUTE 0", x.over(0, 0), 1);
        CHECK.due("its REAL END", x.end(0), 0);
        CHECK.due("told anew", x.over(0, 100000), 1);
        CHECK.due("its REAL END anew", x.end(0), 100000);
        for (int match : NO_CODES) {
            CHECK.due("over(" + match + ", 5)", x.over(match, 5), CourtDraws.NUMBER);
        }
        CHECK.due("beyond the last MATCH", x.over(3, 5), CourtDraws.NUMBER);
        x.draw(2, 4, 2);
        CHECK.due("not LAID", x.over(32, 5), CourtDraws.NUMBER);
        x.point(1, 0);
        x.retire(1, 0);
        CHECK.due("of one RETIRED", x.over(1, 5), 1);
        Scenes.games(x, 2, "000000000000");
        CHECK.due("of one ENDED by POINTS", x.over(2, 5), 1);
    }

    private static void promise31End() {
        CourtDraws x = Scenes.two();
        CHECK.due("not ENDED", x.end(0), -1);
        x.walk(0, 0);
        CHECK.due("none told", x.end(0), -1);
        x.over(0, 44);
        CHECK.due("told", x.end(0), 44);
        CHECK.due("another's", x.end(1), -1);
        x.undo(0);
        CHECK.due("undone", x.end(0), -1);
        x.walk(0, 0);
        CHECK.due("ENDED again, none told", x.end(0), -1);
        for (int match : NO_CODES) {
            CHECK.due("end(" + match + ")", x.end(match), -1);
        }
        x.over(0, 45);
        x.draw(0, 4, 2);
        CHECK.due("of a DRAW that is new", x.end(0), -1);
    }

    private static void promise32Why() {
        CourtDraws x = Scenes.two();
        CHECK.due("it may", x.why(0, 0), 0);
        CHECK.due("a SIDE isn't known", x.why(2, 0), 2);
        for (int match : NO_CODES) {
            CHECK.due("why(" + match + ", 0)", x.why(match, 0), 1);
        }
        CHECK.due("beyond the last MATCH", x.why(3, 0), 1);
        x.draw(2, 4, 2);
        CHECK.due("not LAID", x.why(32, 0), 1);
        x.point(0, 0);
        CHECK.due("it has POINTS", x.why(0, 0), 4);
        x.retire(0, 1);
        CHECK.due("ENDED is told ahead of POINTS", x.why(0, 0), 3);
        CHECK.due("one SIDE isn't known", x.why(2, 0), 2);
        x.walk(1, 0);
        x.over(0, 500);
        x.over(1, 520);
        CHECK.due("neither is RESTED: SIDE 0 is told", x.why(2, 559), 5);
        CHECK.due("SIDE 0 is", x.why(2, 560), 6);
        CHECK.due("SIDE 1 isn't", x.why(2, 579), 6);
        CHECK.due("both are", x.why(2, 580), 0);
        x.over(1, 0);
        x.over(0, 0);
        CHECK.due("REAL END at MINUTE 0", x.why(2, 59), 5);
        CHECK.due("RESTED from MINUTE 60 on", x.why(2, 60), 0);
        CHECK.due("ahead of all MINUTES", x.why(2, Integer.MIN_VALUE), 5);
        x.over(0, 500);
        x.over(1, 520);
        x.rule(0, 100);
        CHECK.due("a longer REST", x.why(2, 619), 6);
        CHECK.due("a longer REST over", x.why(2, 620), 0);
        x.point(2, 0);
        CHECK.due("POINTS are told ahead of RESTS", x.why(2, 0), 4);
        CourtDraws y = new CourtDraws();
        Scenes.fill(y, 0, 4, 2, 5, 3);
        y.seeds(0, 3);
        y.lay(0, 0);
        CHECK.due("a BYE is known: ENDED", y.why(0, 0), 3);
    }

    private static void promise32WhyOtherDraws() {
        CourtDraws x = Scenes.two();
        x.walk(0, 0);
        x.over(0, 700);
        CHECK.due("PLAYER 8 lost in DRAW 0", x.why(16, 759), 5);
        CHECK.due("and is RESTED", x.why(16, 760), 0);
        x.walk(16, 1);
        x.over(16, 300);
        x.walk(17, 1);
        x.over(17, 400);
        CHECK.due("9 isn't RESTED", x.why(18, 459), 6);
        CHECK.due("11 isn't either", x.why(18, 359), 5);
        Scenes.fill(x, 2, 4, 2, 8, 3);
        x.seeds(2, 3);
        x.lay(2, 0);
        CHECK.due("8 has a BYE there", x.side(32, 0), 8);
        CHECK.due("10 and 9 there", x.why(33, 459), 5);
        CHECK.due("both RESTED", x.why(33, 460), 0);
        x.over(32, 800);
        x.walk(33, 0);
        CHECK.due("REAL END of a BYE's MATCH counts, the latest one", x.why(34, 859), 5);
        CHECK.due("all are over", x.why(34, 860), 0);
        x.over(32, 100);
        CHECK.due("REAL END of DRAW 0 is the latest now", x.why(34, 759), 5);
        CHECK.due("and over", x.why(34, 760), 0);
        x.draw(0, 4, 2);
        CHECK.due("a DRAW that is gone doesn't count", x.why(34, 460), 0);
    }

    private static void promise33Worth() {
        CourtDraws x = Scenes.two();
        for (int match : NO_CODES) {
            CHECK.due("worth(" + match + ", 5)", x.worth(match, 5), CourtDraws.NUMBER);
        }
        CHECK.due("worth(0, 1000)", x.worth(0, 1000), CourtDraws.NUMBER);
        CHECK.due("worth(0, -1)", x.worth(0, -1), CourtDraws.NUMBER);
        CHECK.due("of like ones the lesser", x.fitted(0, 0), 0);
        CHECK.due("worth(17, 999)", x.worth(17, 999), 1);
        CHECK.due("the worthiest", x.fitted(0, 0), 17);
        CHECK.due("worth(1, 999)", x.worth(1, 999), 1);
        CHECK.due("the lesser of two", x.fitted(0, 0), 1);
        CHECK.due("worth(1, 0)", x.worth(1, 0), 1);
        CHECK.due("worthless again", x.fitted(0, 0), 17);
        CHECK.due("of a DRAW that there is not", x.worth(62, 998), 1);
        CHECK.due("of a DRAW that isn't there", x.worth(48, 1), 1);
        x.draw(1, 4, 3);
        for (int player = 20; player < 24; player++) {
            x.enter(1, player);
        }
        x.lay(1, 0);
        CHECK.due("it stays when a DRAW is new", x.fitted(0, 0), 17);
    }

    private static void promise34Fitted() {
        CourtDraws x = Scenes.two();
        for (int c : NO_COURTS) {
            CHECK.due("fitted(" + c + ", 0)", x.fitted(c, 0), -1);
        }
        x.lucky(1, 8, 30);
        CHECK.due("COURT 0", x.fitted(0, 600), 0);
        CHECK.due("COURT 1", x.fitted(1, 600), 1);
        CHECK.due("COURT 2", x.fitted(2, 600), 16);
        CHECK.due("COURT 3", x.fitted(3, 600), 17);
        CHECK.due("COURT 4", x.fitted(4, 600), -1);
        x.court(4, false, false, 7, 99999);
        x.court(2, false, false, 7, 99999);
        x.court(5, false, false, 8, 99999);
        x.worth(17, 3);
        x.worth(1, 2);
        CHECK.due("the worthiest COURT", x.fitted(5, 600), 17);
        CHECK.due("the lesser of like ones", x.fitted(2, 600), 1);
        CHECK.due("the other one", x.fitted(4, 600), 0);
        CHECK.due("COURT 0 now", x.fitted(0, 600), 16);
        CHECK.due("COURT 1 now", x.fitted(1, 600), -1);
    }

    private static void promise34NoPlayerTwice() {
        CourtDraws x = Scenes.two();
        CHECK.due("COURT 0", x.fitted(0, 0), 0);
        CHECK.due("COURT 1", x.fitted(1, 0), 1);
        CHECK.due("16 is left out: 8 plays 0", x.fitted(2, 0), 17);
        CHECK.due("nothing left", x.fitted(3, 0), -1);
        x.worth(16, 1);
        CHECK.due("16 comes first", x.fitted(0, 0), 16);
        CHECK.due("0 is left out", x.fitted(1, 0), 1);
        CHECK.due("17 again", x.fitted(2, 0), 17);
        CHECK.due("nothing left again", x.fitted(3, 0), -1);
        Scenes.fill(x, 2, 4, 2, 5, 4);
        x.seeds(2, 4);
        x.lay(2, 0);
        CHECK.due("32 and 33 have 8 and 7, 6 of others", x.fitted(3, 0), -1);
        x.worth(33, 2);
        CHECK.due("33 has 7 and 6", x.fitted(0, 0), 33);
        CHECK.due("16 next", x.fitted(1, 0), 16);
        CHECK.due("1 is left out, 17 isn't", x.fitted(2, 0), 17);
        CHECK.due("5's are left out by 8", x.fitted(3, 0), -1);
    }

    private static void promise34LeavesOut() {
        CourtDraws x = Scenes.two();
        x.court(0, false, true, 50, 600);
        x.court(3, true, false, 10, 600);
        x.rain(true);
        CHECK.due("not COVERED in the RAIN", x.fitted(0, 0), -1);
        CHECK.due("COVERED", x.fitted(3, 0), 0);
        x.rain(false);
        CHECK.due("dry", x.fitted(0, 0), 0);
        CHECK.due("second", x.fitted(3, 0), 1);
        x.point(0, 0);
        CHECK.due("one with POINTS may not begin: 16 may", x.fitted(3, 0), 16);
        x.retire(0, 0);
        x.over(0, 500);
        CHECK.due("8 isn't RESTED", x.fitted(3, 559), 17);
        CHECK.due("8 is RESTED", x.fitted(3, 560), 16);
        x.walk(1, 0);
        CHECK.due("2 may begin now, and is the least", x.fitted(0, 560), 2);
        CHECK.due("16 is left out, for 8 plays 2", x.fitted(3, 560), 17);
    }
}
