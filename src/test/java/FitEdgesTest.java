/** Promises 32 and 34 and when PLAYERS are RESTED: each sentence that names a boundary of what may be played where. */
public final class FitEdgesTest {
    private static final Check CHECK = new Check("FitEdgesTest");
    private static final int[] FAR = {Integer.MIN_VALUE, -1000, 200000, Integer.MAX_VALUE};

    public static void main(String[] args) {
        whyOfNone();
        whyOfUnknownSides();
        whyOfEnded();
        whyOfPoints();
        whyTheFirstThatIsSo();
        restedFromAMinuteOn();
        restedFromEachMatch();
        whyOutsideTheDay();
        fittedToNoCourt();
        fittedNone();
        fittedMoreThanCourts();
        fittedByWorth();
        fittedByCourtsWorth();
        fittedWhatMayBegin();
        fittedNoPlayerTwice();
        fittedBesidesThoseLeftOut();
        fittedInRain();
        fittedAnyHour();
        CHECK.finish();
    }

    private static void dueFitted(String what, CourtDraws x, int minute, int... want) {
        for (int c = 0; c < 6; c++) {
            CHECK.due(what + ": COURT " + c, x.fitted(c, minute), c < want.length ? want[c] : -1);
        }
    }

    /** DRAW 0 of sixteen: eight MATCHES may begin. */
    private static CourtDraws sixteen() {
        CourtDraws x = new CourtDraws();
        Scenes.fill(x, 0, 16, 2, 0, 16);
        x.lay(0, 0);
        return x;
    }

    /** "1: there is no such MATCH (of a LAID DRAW)" */
    private static void whyOfNone() {
        CourtDraws x = Scenes.two();
        Scenes.fill(x, 2, 4, 2, 20, 4);
        int[] none = {-1, 3, 14, 15, 19, 31, 32, 34, 48, 63, 64};
        for (int match : none) {
            CHECK.due("why(" + match + ", 700)", x.why(match, 700), 1);
        }
        for (int far : FAR) {
            CHECK.due("why(" + far + ", 700)", x.why(far, 700), 1);
        }
        x.lay(2, 0);
        CHECK.due("LAID", x.why(32, 700), 0);
        CHECK.due("its last MATCH", x.why(34, 700), 2);
        CHECK.due("one behind", x.why(35, 700), 1);
    }

    /** "2 a SIDE isn't known (a BYE is)" */
    private static void whyOfUnknownSides() {
        CourtDraws x = Scenes.two();
        CHECK.due("neither", x.why(2, 700), 2);
        x.walk(0, 0);
        CHECK.due("SIDE 0 alone", x.why(2, 700), 2);
        x.undo(0);
        x.walk(1, 0);
        CHECK.due("SIDE 1 alone", x.why(2, 700), 2);
        x.walk(0, 0);
        CHECK.due("both", x.why(2, 700), 0);
        CHECK.due("a BYE is known", Scenes.three().why(0, 700), 3);
        CHECK.due("behind a BYE SIDE 1 isn't", Scenes.three().why(2, 700), 2);
    }

    /** "3 it is ENDED" */
    private static void whyOfEnded() {
        CourtDraws x = Scenes.two();
        x.walk(0, 1);
        CHECK.due("a WALK-OVER", x.why(0, 700), 3);
        x.undo(0);
        CHECK.due("undone", x.why(0, 700), 0);
        Scenes.games(x, 1, "000000000000");
        CHECK.due("by POINTS", x.why(1, 700), 3);
        x.point(0, 0);
        x.retire(0, 0);
        CHECK.due("RETIRED", x.why(0, 700), 3);
    }

    /** "4 it has POINTS" */
    private static void whyOfPoints() {
        CourtDraws x = Scenes.two();
        x.point(0, 1);
        CHECK.due("one", x.why(0, 700), 4);
        x.back(0);
        CHECK.due("none", x.why(0, 700), 0);
        Scenes.points(x, 0, "01".repeat(150));
        CHECK.due("three hundred", x.why(0, 700), 4);
    }

    /** "(The first that is so.)" */
    private static void whyTheFirstThatIsSo() {
        CourtDraws x = Scenes.two();
        x.walk(16, 0);
        x.over(16, 1000);
        CHECK.due("8 isn't RESTED, on SIDE 1", x.why(0, 700), 6);
        CHECK.due("not known, ahead of 8's REST", x.why(18, 700), 2);
        x.point(0, 0);
        CHECK.due("POINTS, ahead of 8's REST", x.why(0, 700), 4);
        x.retire(0, 0);
        CHECK.due("ENDED, ahead of POINTS and 8's REST", x.why(0, 700), 3);
        x.over(0, 900);
        x.walk(1, 0);
        x.over(1, 1000);
        CHECK.due("neither is RESTED: SIDE 0", x.why(2, 700), 5);
        x.over(0, 1000);
        x.over(16, 0);
        x.over(1, 0);
        CHECK.due("SIDE 0 alone", x.why(2, 700), 5);
        x.over(0, 0);
        x.over(1, 1000);
        CHECK.due("SIDE 1 alone", x.why(2, 700), 6);
        CourtDraws y = Scenes.two();
        y.walk(0, 0);
        y.over(0, 1000);
        CHECK.due("8 isn't RESTED, on SIDE 0", y.why(16, 700), 5);
        y.point(16, 1);
        CHECK.due("POINTS, ahead of SIDE 0's REST", y.why(16, 700), 4);
        y.retire(16, 1);
        CHECK.due("ENDED, ahead of both", y.why(16, 700), 3);
    }

    /** "no less than the REAL END ..., and REST more"; "REST is 60 MINUTES at first" */
    private static void restedFromAMinuteOn() {
        int[] rests = {60, 0, 1, 2000};
        int[] ends = {0, 1, 500, 100000};
        for (int rest : rests) {
            for (int end : ends) {
                CourtDraws x = Scenes.two();
                x.rule(0, rest);
                x.walk(0, 0);
                CHECK.due("no REAL END yet", x.why(16, 0), 0);
                x.over(0, end);
                CHECK.due("a MINUTE too early", x.why(16, end + rest - 1), 5);
                CHECK.due("just RESTED", x.why(16, end + rest), 0);
                CHECK.due("a MINUTE later", x.why(16, end + rest + 1), 0);
            }
        }
    }

    /** "each of its MATCHES that has one" */
    private static void restedFromEachMatch() {
        CourtDraws x = Scenes.two();
        Scenes.fill(x, 2, 4, 2, 8, 1);
        x.enter(2, 30);
        x.enter(2, 31);
        x.seeds(2, 3);
        x.lay(2, 0);
        CHECK.due("8 has a BYE", x.side(34, 0), 8);
        x.over(32, 300);
        CHECK.due("REAL END of a BYE's MATCH", x.why(0, 359), 6);
        CHECK.due("RESTED from it", x.why(0, 360), 0);
        x.walk(16, 1);
        x.over(16, 200);
        CHECK.due("a lesser one doesn't matter", x.why(0, 359), 6);
        CHECK.due("nor here", x.why(0, 360), 0);
        x.over(16, 301);
        CHECK.due("a greater one does", x.why(0, 360), 6);
        CHECK.due("RESTED from all", x.why(0, 361), 0);
        x.lucky(2, 8, 32);
        CHECK.due("who gave way has no such MATCH", x.side(34, 0), 32);
        x.undo(16);
        CHECK.due("nor one undone", x.why(0, 0), 0);
        x.walk(33, 0);
        CHECK.due("the lucky one has that REAL END", x.why(34, 359), 5);
        CHECK.due("and is RESTED", x.why(34, 360), 0);
        x.draw(2, 4, 2);
        Scenes.fill(x, 2, 4, 2, 30, 4);
        x.lay(2, 0);
        CHECK.due("a new DRAW has none", x.why(32, 0) + x.why(33, 0), 0);
    }

    /** No refusal is named for a minute that is no MINUTE: it is less or more than others. */
    private static void whyOutsideTheDay() {
        CourtDraws x = Scenes.two();
        for (int far : FAR) {
            CHECK.due("no REAL END", x.why(0, far), 0);
        }
        x.walk(0, 0);
        x.over(0, 0);
        CHECK.due("ahead of all MINUTES", x.why(16, -1), 5);
        CHECK.due("far ahead of them", x.why(16, Integer.MIN_VALUE), 5);
        CHECK.due("behind all MINUTES", x.why(16, 100001), 0);
        CHECK.due("far behind them", x.why(16, Integer.MAX_VALUE), 0);
    }

    /** "-1: none, or there is no such COURT" */
    private static void fittedToNoCourt() {
        CourtDraws x = sixteen();
        CHECK.due("COURT -1", x.fitted(-1, 0), -1);
        CHECK.due("COURT 0", x.fitted(0, 0), 0);
        CHECK.due("COURT 5", x.fitted(5, 0), 5);
        CHECK.due("COURT 6", x.fitted(6, 0), -1);
        for (int far : FAR) {
            CHECK.due("COURT " + far, x.fitted(far, 0), -1);
        }
    }

    private static void fittedNone() {
        CourtDraws x = new CourtDraws();
        dueFitted("no DRAW", x, 0);
        Scenes.fill(x, 3, 4, 2, 0, 3);
        dueFitted("not LAID", x, 0);
        x.seeds(3, 1);
        x.lay(3, 0);
        dueFitted("one MATCH", x, 0, 49);
        x.walk(49, 0);
        dueFitted("the last MATCH", x, 0, 50);
        x.walk(50, 0);
        dueFitted("none is left", x, 0);
    }

    /** "one comes to each COURT" */
    private static void fittedMoreThanCourts() {
        CourtDraws x = sixteen();
        dueFitted("eight MATCHES", x, 0, 0, 1, 2, 3, 4, 5);
        x.point(2, 0);
        dueFitted("seven", x, 0, 0, 1, 3, 4, 5, 6);
        x.point(0, 0);
        dueFitted("six", x, 0, 1, 3, 4, 5, 6, 7);
        x.point(7, 0);
        dueFitted("five", x, 0, 1, 3, 4, 5, 6);
    }

    /** "the greatest worth first, of like ones the lesser" */
    private static void fittedByWorth() {
        CourtDraws x = sixteen();
        x.worth(7, 1);
        dueFitted("the worthiest", x, 0, 7, 0, 1, 2, 3, 4);
        x.worth(5, 1);
        dueFitted("like ones", x, 0, 5, 7, 0, 1, 2, 3);
        x.worth(6, 2);
        dueFitted("a greater one", x, 0, 6, 5, 7, 0, 1, 2);
        x.worth(14, 999);
        dueFitted("one that may not begin", x, 0, 6, 5, 7, 0, 1, 2);
        x.worth(0, 999);
        x.worth(1, 998);
        dueFitted("the greatest", x, 0, 0, 1, 6, 5, 7, 2);
    }

    /** "the greatest WORTH first, of like ones the lesser" */
    private static void fittedByCourtsWorth() {
        CourtDraws x = sixteen();
        x.court(5, false, false, 1, 600);
        dueFitted("the worthiest", x, 0, 1, 2, 3, 4, 5, 0);
        x.court(3, false, false, 1, 600);
        dueFitted("like ones", x, 0, 2, 3, 4, 0, 5, 1);
        x.court(4, false, false, 99, 600);
        dueFitted("the greatest", x, 0, 3, 4, 5, 1, 0, 2);
        for (int match = 2; match < 8; match++) {
            x.point(match, 0);
        }
        dueFitted("two MATCHES", x, 0, -1, -1, -1, 1, 0, -1);
    }

    /** "of the MATCHES that may begin then" */
    private static void fittedWhatMayBegin() {
        CourtDraws x = Scenes.two();
        x.walk(0, 0);
        x.over(0, 500);
        dueFitted("8 isn't RESTED", x, 559, 1, 17);
        dueFitted("8 is", x, 560, 1, 16, 17);
        x.walk(1, 0);
        x.over(1, 520);
        dueFitted("SIDE 1 of 2 isn't RESTED", x, 579, 16, 17);
        dueFitted("SIDE 1 of 2 is", x, 580, 2, 16, 17);
        x.point(2, 0);
        dueFitted("2 has POINTS", x, 580, 16, 17);
        x.retire(2, 0);
        dueFitted("2 is ENDED", x, 580, 16, 17);
    }

    /** "no PLAYER twice (one whose PLAYER has a COURT already is left out)" */
    private static void fittedNoPlayerTwice() {
        for (int player = 0; player < 40; player += 39) {
            CourtDraws x = new CourtDraws();
            for (int d = 0; d < 3; d++) {
                x.draw(d, 4, 2);
                x.enter(d, player);
                for (int i = 0; i < 3; i++) {
                    x.enter(d, 1 + 3 * d + i);
                }
                x.seeds(d, 4);
                x.lay(d, 0);
            }
            dueFitted("PLAYER " + player + " once", x, 0, 0, 1, 17, 33);
            x.worth(32, 1);
            dueFitted("PLAYER " + player + " where it is worth most", x, 0, 32, 1, 17, 33);
        }
        CourtDraws y = Scenes.two();
        y.worth(16, 5);
        dueFitted("SIDE 1 has a COURT already", y, 0, 16, 1, 17);
        y.worth(0, 6);
        dueFitted("SIDE 0 has", y, 0, 0, 1, 17);
    }

    /** One that is left out holds nobody: its other PLAYER may have a COURT. */
    private static void fittedBesidesThoseLeftOut() {
        CourtDraws x = Scenes.two();
        x.draw(2, 4, 2);
        x.enter(2, 11);
        x.enter(2, 30);
        x.enter(2, 31);
        x.enter(2, 32);
        x.seeds(2, 4);
        x.lay(2, 0);
        x.worth(0, 9);
        x.worth(16, 8);
        x.worth(32, 7);
        dueFitted("0 has 8, 16 is left out, 32 has 11", x, 0, 0, 32, 1, 17, 33);
        x.worth(0, 0);
        dueFitted("16 has 8 and 11", x, 0, 16, 1, 17, 33);
    }

    /** "COURTS that aren't COVERED are left out when RAIN is on" */
    private static void fittedInRain() {
        CourtDraws x = sixteen();
        x.court(0, false, true, 99, 600);
        x.court(2, true, false, 1, 600);
        x.court(4, true, false, 2, 600);
        dueFitted("dry", x, 0, 0, 3, 2, 4, 1, 5);
        x.rain(true);
        dueFitted("in the RAIN", x, 0, -1, -1, 1, -1, 0, -1);
        x.court(4, false, false, 2, 600);
        dueFitted("one COVERED", x, 0, -1, -1, 0);
        x.court(2, false, false, 1, 600);
        dueFitted("none COVERED", x, 0);
        x.rain(false);
        dueFitted("dry again", x, 0, 0, 3, 2, 4, 1, 5);
    }

    /** Neither OPENS nor DARK nor SLOTS are named there. */
    private static void fittedAnyHour() {
        CourtDraws x = sixteen();
        x.slot(0, 0);
        int[] minutes = {0, 599, 1301, 100000, 100001, -1, Integer.MIN_VALUE, Integer.MAX_VALUE};
        for (int minute : minutes) {
            dueFitted("at " + minute, x, minute, 0, 1, 2, 3, 4, 5);
        }
    }
}
