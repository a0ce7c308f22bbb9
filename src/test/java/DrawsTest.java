/** Promises 1 to 9: a new object, and what is asked of PLAYERS and DRAWS. */
public final class DrawsTest {
    private static final Check CHECK = new Check("DrawsTest");

    public static void main(String[] args) {
        promise1NewObject();
        promise2Land();
        promise3Draw();
        promise3DrawInPlaceOfAnother();
        promise4Enter();
        promise5Seeds();
        promise6LayRefusals();
        promise6LayPlaces();
        promise6LandsAreThoseOfTheLaying();
        promise7Place();
        promise8Of();
        promise9Lucky();
        promise9LuckyLater();
        CHECK.finish();
    }

    private static void promise1NewObject() {
        CourtDraws x = new CourtDraws();
        for (int player = 0; player < 40; player++) {
            CHECK.due("land of a new object", x.land(player, 0), 0);
        }
        for (int d = 0; d < 4; d++) {
            CHECK.due("of a DRAW that there is not", x.of(d, 0), -1);
            CHECK.due("place of a DRAW that there is not", x.place(d, 0), -2);
            CHECK.due("enter into none", x.enter(d, 0), CourtDraws.NUMBER);
        }
        for (int c = 0; c < 6; c++) {
            CHECK.due("no SLOTS at first", x.held(c, 0), -2000);
            CHECK.due("gap on a new COURT", x.gap(c, 700), 0);
            CHECK.due("OPENS at first", x.time(c, 0, 0), 600);
            CHECK.due("END at DARK can be", x.time(c, 0, 1), 1300);
            CHECK.due("a GAP behind DARK", x.gap(c, 1), 1);
            CHECK.due("neither LIT nor COVERED at first", x.time(c, 1, 0), -1);
        }
        CHECK.due("REST at first", x.rule(0, 60), 60);
        CHECK.due("FORETOLD of LENGTH 2 at first", x.rule(1, 90), 90);
        CHECK.due("FORETOLD of LENGTH 3 at first", x.rule(2, 150), 150);
        CHECK.due("DARK at first", x.rule(3, 1300), 1300);
        CHECK.due("RAIN is off at first", x.rain(false), false);
        CourtDraws y = new CourtDraws();
        y.land(5, 7);
        y.draw(0, 4, 2);
        CHECK.due("objects share nothing: land", x.land(5, 0), 0);
        CHECK.due("objects share nothing: draw", x.of(0, 0), -1);
    }

    private static void promise2Land() {
        CourtDraws x = new CourtDraws();
        CHECK.due("land(0, 9)", x.land(0, 9), 0);
        CHECK.due("land(0, 3)", x.land(0, 3), 9);
        CHECK.due("land(39, 1)", x.land(39, 1), 0);
        CHECK.due("land(39, 0)", x.land(39, 0), 1);
        CHECK.due("land(40, 1)", x.land(40, 1), CourtDraws.NUMBER);
        CHECK.due("land(-1, 1)", x.land(-1, 1), CourtDraws.NUMBER);
        CHECK.due("land(0, 10)", x.land(0, 10), CourtDraws.NUMBER);
        CHECK.due("land(0, -1)", x.land(0, -1), CourtDraws.NUMBER);
        CHECK.due("land behind refusals", x.land(0, 0), 3);
    }

    private static void promise3Draw() {
        CourtDraws x = new CourtDraws();
        int[] sizes = {4, 8, 16};
        for (int d = 0; d < 4; d++) {
            for (int size : sizes) {
                CHECK.due("draw", x.draw(d, size, 3), 1);
                CHECK.due("its SIZE", x.of(d, 0), size);
                CHECK.due("its LENGTH", x.of(d, 1), 3);
            }
        }
        CHECK.due("draw(4, 4, 2)", x.draw(4, 4, 2), CourtDraws.NUMBER);
        CHECK.due("draw(-1, 4, 2)", x.draw(-1, 4, 2), CourtDraws.NUMBER);
        int[] wrongSizes = {-4, 0, 1, 2, 3, 5, 6, 7, 9, 12, 15, 17, 32};
        for (int size : wrongSizes) {
            CHECK.due("draw of size " + size, x.draw(0, size, 2), CourtDraws.NUMBER);
        }
        int[] wrongLengths = {-2, 0, 1, 4, 5};
        for (int length : wrongLengths) {
            CHECK.due("draw of length " + length, x.draw(0, 8, length), CourtDraws.NUMBER);
        }
        CHECK.due("size behind refusals", x.of(0, 0), 16);
        CHECK.due("length behind refusals", x.of(0, 1), 3);
    }

    private static void promise3DrawInPlaceOfAnother() {
        CourtDraws x = new CourtDraws();
        Scenes.fill(x, 1, 4, 2, 0, 4);
        x.seeds(1, 2);
        x.lay(1, 5);
        x.lucky(1, 3, 30);
        x.worth(18, 77);
        x.slot(2, 16);
        Scenes.points(x, 16, "0110");
        x.retire(16, 0);
        x.over(16, 900);
        CHECK.due("a new one in its place", x.draw(1, 8, 3), 1);
        CHECK.due("without ENTRANTS", x.of(1, 2), 0);
        CHECK.due("without SEEDS", x.of(1, 3), 0);
        CHECK.due("not LAID", x.of(1, 4), 0);
        CHECK.due("nothing ENDED", x.of(1, 5), 0);
        CHECK.due("its SLOTS stay", x.held(2, 0), 16);
        CHECK.due("a SLOT of a DRAW that isn't LAID", x.time(2, 0, 0), -1);
        for (int i = 0; i < 4; i++) {
            CHECK.due("who came to the old one may come", x.enter(1, i), i + 1);
        }
        CHECK.due("a lucky one of the old one may come", x.enter(1, 30), 5);
        CHECK.due("lay anew", x.lay(1, 5), 3);
        CHECK.due("REAL END is gone", x.end(16), -1);
        CHECK.due("POINTS are gone", x.score(16, 8), 0);
        CHECK.due("a match not begun, of PLACES 6 and 7", x.stands(19), 1);
        CHECK.due("worth stays", x.fitted(0, 0), 19);
        CHECK.due("other DRAWS stay none", x.of(0, 0), -1);
    }

    private static void promise4Enter() {
        CourtDraws x = new CourtDraws();
        CHECK.due("enter without a DRAW", x.enter(0, 0), CourtDraws.NUMBER);
        x.draw(0, 4, 2);
        CHECK.due("enter(-1, 0)", x.enter(-1, 0), CourtDraws.NUMBER);
        CHECK.due("enter(4, 0)", x.enter(4, 0), CourtDraws.NUMBER);
        CHECK.due("enter(0, -1)", x.enter(0, -1), CourtDraws.NUMBER);
        CHECK.due("enter(0, 40)", x.enter(0, 40), CourtDraws.NUMBER);
        CHECK.due("enter(0, 39)", x.enter(0, 39), 1);
        CHECK.due("enter(0, 39) again", x.enter(0, 39), CourtDraws.TWICE);
        CHECK.due("enter(0, 0)", x.enter(0, 0), 2);
        CHECK.due("enter(0, 7)", x.enter(0, 7), 3);
        CHECK.due("enter(0, 8)", x.enter(0, 8), 4);
        CHECK.due("full", x.enter(0, 9), CourtDraws.FULL);
        CHECK.due("TWICE is named ahead of FULL", x.enter(0, 8), CourtDraws.TWICE);
        CHECK.due("how many behind refusals", x.of(0, 2), 4);
        x.lay(0, 1);
        CHECK.due("STATE is named ahead of TWICE", x.enter(0, 8), CourtDraws.STATE);
        CHECK.due("NUMBER is named ahead of STATE", x.enter(0, 40), CourtDraws.NUMBER);
        x.draw(1, 4, 2);
        CHECK.due("the same PLAYER in another DRAW", x.enter(1, 8), 1);
    }

    private static void promise5Seeds() {
        CourtDraws x = new CourtDraws();
        CHECK.due("seeds without a DRAW", x.seeds(0, 1), CourtDraws.NUMBER);
        x.draw(0, 8, 2);
        for (int many = 0; many <= 4; many++) {
            CHECK.due("seeds(0, " + many + ")", x.seeds(0, many), 1);
            CHECK.due("how many", x.of(0, 3), many);
        }
        CHECK.due("seeds(0, 5)", x.seeds(0, 5), CourtDraws.NUMBER);
        CHECK.due("seeds(0, -1)", x.seeds(0, -1), CourtDraws.NUMBER);
        CHECK.due("seeds(4, 1)", x.seeds(4, 1), CourtDraws.NUMBER);
        CHECK.due("seeds(-1, 1)", x.seeds(-1, 1), CourtDraws.NUMBER);
        for (int player = 0; player < 5; player++) {
            x.enter(0, player);
        }
        x.lay(0, 1);
        CHECK.due("seeds of a LAID one", x.seeds(0, 1), CourtDraws.STATE);
        CHECK.due("NUMBER ahead of STATE", x.seeds(0, 5), CourtDraws.NUMBER);
        CHECK.due("seeds stay", x.of(0, 3), 4);
    }

    private static void promise6LayRefusals() {
        CourtDraws x = new CourtDraws();
        CHECK.due("lay without a DRAW", x.lay(0, 1), CourtDraws.NUMBER);
        CHECK.due("lay(-1, 1)", x.lay(-1, 1), CourtDraws.NUMBER);
        CHECK.due("lay(4, 1)", x.lay(4, 1), CourtDraws.NUMBER);
        int[] sizes = {4, 8, 16};
        for (int size : sizes) {
            Scenes.fill(x, 0, size, 2, 0, size / 2);
            CHECK.due("too few of " + size, x.lay(0, 1), CourtDraws.UNKNOWN);
            CHECK.due("not LAID by that", x.of(0, 4), 0);
            x.enter(0, 30);
            CHECK.due("just enough of " + size, x.lay(0, 1), size / 2 - 1);
            CHECK.due("LAID", x.of(0, 4), 1);
            CHECK.due("LAID already", x.lay(0, 1), CourtDraws.STATE);
        }
        Scenes.fill(x, 0, 4, 2, 0, 3);
        x.seeds(0, 4);
        CHECK.due("fewer than SEEDS", x.lay(0, 1), CourtDraws.UNKNOWN);
        x.seeds(0, 3);
        CHECK.due("as many as SEEDS", x.lay(0, 1), 1);
    }

    private static void dueLaid(CourtDraws x, int seeds, int seed, int byes, String want) {
        x.seeds(0, seeds);
        CHECK.due("lay(0, " + seed + ")", x.lay(0, seed), byes);
        CHECK.due("places by " + seed, Scenes.places(x, 0), want);
    }

    /** The places were worked out apart from the program, by the document's words. */
    private static void promise6LayPlaces() {
        CourtDraws x = new CourtDraws();
        Scenes.lands(x, 0, 1, 1, 2, 2);
        String[] fours = {"2 1 3 0", "3 1 0 2", "3 0 2 1", "1 2 0 3", "0 3 1 2", "0 3 2 1", "2 0 1 3", "1 3 0 2",
            "3 1 2 0", "0 2 1 3", "1 3 0 2", "2 1 3 0"};
        for (int seed = 0; seed < fours.length; seed++) {
            Scenes.fill(x, 0, 4, 2, 0, 4);
            dueLaid(x, 0, seed, 0, fours[seed]);
        }
        Scenes.lands(x, 0, 2, 1, 2, 1);
        int[] changesWithZero = {6, 9};
        String[] changed = {"1 0 3 2", "3 0 1 2"};
        for (int i = 0; i < changed.length; i++) {
            x.draw(0, 4, 2);
            x.enter(0, 3);
            x.enter(0, 0);
            x.enter(0, 1);
            x.enter(0, 2);
            dueLaid(x, 0, changesWithZero[i], 0, changed[i]);
        }
        Scenes.fill(x, 0, 4, 2, 5, 3);
        dueLaid(x, 3, 0, 1, "5 -1 7 6");
        Scenes.fill(x, 0, 4, 2, 5, 3);
        dueLaid(x, 3, 3, 1, "5 7 -1 6");
        Scenes.fill(x, 0, 4, 2, 5, 4);
        dueLaid(x, 4, 0, 0, "5 8 7 6");
        Scenes.fill(x, 0, 4, 2, 5, 4);
        dueLaid(x, 4, 3, 0, "5 7 8 6");

        Scenes.lands(x, 10, 1, 2, 1, 2, 1, 2, 3, 3);
        int[] seeds = {0, -1, Integer.MAX_VALUE, Integer.MIN_VALUE};
        String[] eights = {"10 17 15 12 16 13 14 11", "10 15 12 13 16 14 17 11", "10 17 15 16 14 13 12 11",
            "10 17 16 14 13 15 12 11"};
        for (int i = 0; i < eights.length; i++) {
            Scenes.fill(x, 0, 8, 2, 10, 8);
            dueLaid(x, 2, seeds[i], 0, eights[i]);
        }
        Scenes.lands(x, 10, 1, 1, 1, 2, 2);
        Scenes.fill(x, 0, 8, 2, 10, 5);
        dueLaid(x, 1, 3, 3, "10 -1 12 -1 13 -1 11 14");
        Scenes.fill(x, 0, 8, 2, 10, 5);
        dueLaid(x, 1, 99, 3, "10 -1 14 -1 11 -1 13 12");

        for (int player = 20; player < 36; player++) {
            x.land(player, player % 3);
        }
        Scenes.fill(x, 0, 16, 2, 20, 16);
        dueLaid(x, 4, 3, 0, "20 31 32 30 29 33 24 22 23 25 28 26 34 35 27 21");
        Scenes.fill(x, 0, 16, 2, 20, 16);
        dueLaid(x, 4, 77, 0, "20 34 35 30 26 24 29 22 23 28 31 27 33 25 32 21");
        for (int player = 20; player < 36; player++) {
            x.land(player, player % 2);
        }
        Scenes.fill(x, 0, 16, 2, 20, 9);
        dueLaid(x, 4, 3, 7, "20 -1 28 -1 24 -1 -1 22 23 -1 27 -1 25 26 -1 21");
        Scenes.fill(x, 0, 16, 2, 20, 12);
        dueLaid(x, 3, 77, 4, "20 -1 23 -1 24 25 -1 22 30 29 26 27 31 28 -1 21");
    }

    private static void promise6LandsAreThoseOfTheLaying() {
        CourtDraws x = new CourtDraws();
        Scenes.lands(x, 0, 1, 1, 2, 2);
        Scenes.fill(x, 0, 4, 2, 0, 4);
        x.lay(0, 4);
        Scenes.lands(x, 0, 1, 2, 2, 1);
        CHECK.due("a LAID DRAW stays when LANDS change", Scenes.places(x, 0), "0 3 1 2");
        Scenes.fill(x, 1, 4, 2, 0, 4);
        x.lay(1, 4);
        CHECK.due("the same seed, other LANDS: nothing to part", Scenes.places(x, 1), "0 1 3 2");
    }

    private static void promise7Place() {
        CourtDraws x = new CourtDraws();
        CHECK.due("place without a DRAW", x.place(0, 0), -2);
        Scenes.fill(x, 0, 4, 2, 5, 3);
        x.seeds(0, 3);
        CHECK.due("place ahead of laying", x.place(0, 0), -2);
        x.lay(0, 0);
        CHECK.due("a PLAYER", x.place(0, 0), 5);
        CHECK.due("a BYE", x.place(0, 1), -1);
        CHECK.due("the last PLACE", x.place(0, 3), 6);
        CHECK.due("place(0, 4)", x.place(0, 4), -2);
        CHECK.due("place(0, -1)", x.place(0, -1), -2);
        CHECK.due("place(4, 0)", x.place(4, 0), -2);
        CHECK.due("place(-1, 0)", x.place(-1, 0), -2);
        Scenes.fill(x, 1, 16, 2, 0, 16);
        x.seeds(1, 2);
        x.lay(1, 0);
        CHECK.due("PLAYER 0", x.place(1, 0), 0);
        CHECK.due("the last PLACE of 16", x.place(1, 15), 1);
        CHECK.due("place(1, 16)", x.place(1, 16), -2);
    }

    private static void dueOf(CourtDraws x, int d, String want) {
        StringBuilder told = new StringBuilder();
        for (int what = 0; what < 7; what++) {
            told.append(what == 0 ? "" : " ").append(x.of(d, what));
        }
        CHECK.due("of(" + d + ", 0 to 6)", told.toString(), want);
    }

    private static void promise8Of() {
        CourtDraws x = new CourtDraws();
        dueOf(x, 3, "-1 -1 -1 -1 -1 -1 -1");
        Scenes.fill(x, 3, 8, 3, 0, 6);
        x.seeds(3, 2);
        dueOf(x, 3, "8 3 6 2 0 0 3");
        x.lay(3, 1);
        dueOf(x, 3, "8 3 6 2 1 2 3");
        CHECK.due("of(3, 7)", x.of(3, 7), -1);
        CHECK.due("of(3, -1)", x.of(3, -1), -1);
        CHECK.due("of(4, 0)", x.of(4, 0), -1);
        CHECK.due("of(-1, 0)", x.of(-1, 0), -1);
        x.walk(49, 0);
        dueOf(x, 3, "8 3 6 2 1 3 3");
        x.walk(52, 0);
        dueOf(x, 3, "8 3 6 2 1 4 3");
        x.walk(50, 1);
        dueOf(x, 3, "8 3 6 2 1 5 2");
        x.walk(53, 1);
        dueOf(x, 3, "8 3 6 2 1 6 1");
        x.walk(54, 1);
        dueOf(x, 3, "8 3 6 2 1 7 0");
        x.undo(54);
        dueOf(x, 3, "8 3 6 2 1 6 1");
        Scenes.fill(x, 0, 4, 2, 0, 0);
        dueOf(x, 0, "4 2 0 0 0 0 2");
        Scenes.fill(x, 0, 16, 2, 0, 16);
        x.lay(0, 1);
        dueOf(x, 0, "16 2 16 0 1 0 4");
    }

    private static void promise9Lucky() {
        CourtDraws x = new CourtDraws();
        CHECK.due("lucky without a DRAW", x.lucky(0, 5, 20), CourtDraws.NUMBER);
        Scenes.fill(x, 0, 4, 2, 5, 3);
        x.seeds(0, 3);
        CHECK.due("not LAID", x.lucky(0, 5, 20), CourtDraws.STATE);
        CHECK.due("NUMBER ahead of STATE: a", x.lucky(0, 40, 20), CourtDraws.NUMBER);
        CHECK.due("NUMBER ahead of STATE: b", x.lucky(0, 5, -1), CourtDraws.NUMBER);
        x.lay(0, 0);
        CHECK.due("lucky(4, 5, 20)", x.lucky(4, 5, 20), CourtDraws.NUMBER);
        CHECK.due("lucky(0, -1, 20): a BYE is no PLAYER", x.lucky(0, -1, 20), CourtDraws.NUMBER);
        CHECK.due("lucky(0, 5, 40)", x.lucky(0, 5, 40), CourtDraws.NUMBER);
        CHECK.due("b is an ENTRANT", x.lucky(0, 5, 7), CourtDraws.TWICE);
        CHECK.due("a itself", x.lucky(0, 5, 5), CourtDraws.TWICE);
        CHECK.due("TWICE ahead of UNKNOWN", x.lucky(0, 33, 7), CourtDraws.TWICE);
        CHECK.due("a stands nowhere", x.lucky(0, 33, 34), CourtDraws.UNKNOWN);
        CHECK.due("an outsider for itself stands nowhere", x.lucky(0, 33, 33), CourtDraws.UNKNOWN);
        CHECK.due("places as laid", Scenes.places(x, 0), "5 -1 7 6");
        CHECK.due("one with a BYE gives way", x.lucky(0, 5, 20), 1);
        CHECK.due("places", Scenes.places(x, 0), "20 -1 7 6");
        CHECK.due("the lucky one has won the BYE", x.side(2, 0), 20);
        CHECK.due("who went may not come back", x.lucky(0, 20, 5), CourtDraws.TWICE);
        CHECK.due("who went stands nowhere", x.lucky(0, 5, 21), CourtDraws.UNKNOWN);
        CHECK.due("a lucky one gives way, too", x.lucky(0, 20, 22), 1);
        CHECK.due("a lucky one who went so", x.lucky(0, 22, 20), CourtDraws.TWICE);
        CHECK.due("as many ENTRANTS", x.of(0, 2), 3);
        CHECK.due("places at last", Scenes.places(x, 0), "22 -1 7 6");
    }

    private static void promise9LuckyLater() {
        CourtDraws x = new CourtDraws();
        Scenes.fill(x, 0, 4, 2, 5, 3);
        x.seeds(0, 3);
        x.lay(0, 0);
        x.point(1, 0);
        CHECK.due("a MATCH has POINTS: SIDE 0", x.lucky(0, 7, 20), CourtDraws.LATER);
        CHECK.due("a MATCH has POINTS: SIDE 1", x.lucky(0, 6, 20), CourtDraws.LATER);
        CHECK.due("another's POINTS don't matter", x.lucky(0, 5, 20), 1);
        x.back(1);
        CHECK.due("no POINTS any more", x.lucky(0, 7, 21), 1);
        x.walk(1, 0);
        CHECK.due("one is ENDED: who won it", x.lucky(0, 21, 22), CourtDraws.LATER);
        CHECK.due("one is ENDED: who lost it", x.lucky(0, 6, 22), CourtDraws.LATER);
        CHECK.due("with a BYE and the next one waiting", x.lucky(0, 20, 22), 1);
        x.point(2, 1);
        CHECK.due("POINTS behind a BYE", x.lucky(0, 22, 23), CourtDraws.LATER);
        CHECK.due("TWICE ahead of LATER", x.lucky(0, 22, 6), CourtDraws.TWICE);
        Scenes.fill(x, 1, 4, 2, 5, 4);
        x.lay(1, 0);
        CHECK.due("another DRAW's MATCHES don't matter", x.lucky(1, 6, 30), 1);
    }
}
