/** Promises 1 to 9 and Terms 1: each sentence that names a boundary of PLAYERS, DRAWS and how they are LAID. */
public final class DrawEdgesTest {
    private static final Check CHECK = new Check("DrawEdgesTest");
    private static final int[] SIZES = {4, 8, 16};
    private static final int[] FAR = {Integer.MIN_VALUE, -1000, 1000, Integer.MAX_VALUE};

    /**
     * SIZE, how many ENTRANTS (PLAYERS 39, 38 and so on, each of LAND p % 10), SEEDS, seed: PLACES. The first NUMBER
     * is 0 by seed 0, and 1 by seed 3. Worked out apart from the program, by the document's words.
     */
    private static final String[] LAID = {
        "4 3 0 0: 38 -1 39 37", "4 3 0 3: 37 -1 38 39", "4 3 1 0: 39 -1 37 38", "4 3 1 3: 39 -1 38 37",
        "4 3 2 0: 39 -1 37 38", "4 3 2 3: 39 -1 37 38", "4 3 3 0: 39 -1 37 38", "4 3 3 3: 39 37 -1 38",
        "4 4 0 0: 37 38 36 39", "4 4 0 3: 38 37 39 36", "4 4 1 0: 39 37 38 36", "4 4 1 3: 39 36 37 38",
        "4 4 2 0: 39 36 37 38", "4 4 2 3: 39 37 36 38", "4 4 3 0: 39 36 37 38", "4 4 3 3: 39 37 36 38",
        "4 4 4 0: 39 36 37 38", "4 4 4 3: 39 37 36 38", "8 5 0 0: 35 -1 37 -1 36 -1 39 38",
        "8 5 0 3: 35 -1 39 -1 36 -1 38 37", "8 5 1 0: 39 -1 36 -1 37 -1 35 38", "8 5 1 3: 39 -1 37 -1 36 -1 38 35",
        "8 5 2 0: 39 -1 36 -1 37 35 -1 38", "8 5 2 3: 39 -1 35 -1 36 37 -1 38", "8 5 3 0: 39 -1 35 36 37 -1 -1 38",
        "8 5 3 3: 39 -1 -1 37 36 35 -1 38", "8 5 4 0: 39 -1 35 36 37 -1 -1 38", "8 5 4 3: 39 -1 -1 37 36 35 -1 38",
        "8 6 0 0: 34 -1 36 -1 39 35 38 37", "8 6 0 3: 38 -1 34 -1 37 35 39 36", "8 6 1 0: 39 -1 34 -1 36 35 38 37",
        "8 6 1 3: 39 -1 34 -1 38 35 37 36", "8 6 2 0: 39 -1 35 36 34 37 -1 38", "8 6 2 3: 39 -1 36 35 37 34 -1 38",
        "8 6 3 0: 39 -1 35 36 37 34 -1 38", "8 6 3 3: 39 -1 34 37 35 36 -1 38", "8 6 4 0: 39 -1 34 36 37 35 -1 38",
        "8 6 4 3: 39 -1 35 37 36 34 -1 38", "8 7 0 0: 36 -1 38 35 37 34 33 39", "8 7 0 3: 35 -1 34 38 33 39 36 37",
        "8 7 1 0: 39 -1 33 35 38 34 37 36", "8 7 1 3: 39 -1 37 33 36 34 38 35", "8 7 2 0: 39 -1 33 35 34 37 36 38",
        "8 7 2 3: 39 -1 33 37 34 36 35 38", "8 7 3 0: 39 -1 34 35 37 33 36 38", "8 7 3 3: 39 -1 35 37 34 36 33 38",
        "8 7 4 0: 39 -1 34 36 37 35 33 38", "8 7 4 3: 39 -1 33 37 36 34 35 38", "8 8 0 0: 33 37 38 32 34 36 39 35",
        "8 8 0 3: 37 38 32 33 39 35 34 36", "8 8 1 0: 39 35 37 34 36 33 32 38", "8 8 1 3: 39 34 33 37 32 38 35 36",
        "8 8 2 0: 39 32 34 37 33 36 35 38", "8 8 2 3: 39 36 32 35 33 37 34 38", "8 8 3 0: 39 32 34 33 37 36 35 38",
        "8 8 3 3: 39 32 36 37 33 35 34 38", "8 8 4 0: 39 33 34 36 37 32 35 38", "8 8 4 3: 39 34 33 37 36 35 32 38",
        "16 9 0 0: 36 -1 31 -1 32 -1 38 -1 33 -1 39 -1 34 -1 35 37",
        "16 9 1 3: 39 -1 36 -1 37 -1 31 -1 32 -1 38 -1 34 -1 33 35",
        "16 9 3 3: 39 -1 35 -1 31 -1 -1 37 34 -1 32 -1 36 33 -1 38",
        "16 9 4 0: 39 -1 31 -1 33 -1 -1 36 37 -1 32 -1 35 34 -1 38",
        "16 12 0 3: 31 -1 32 -1 33 -1 34 -1 30 29 38 35 37 39 28 36",
        "16 12 1 0: 39 -1 38 -1 30 -1 33 -1 29 34 37 31 36 35 28 32",
        "16 12 3 0: 39 -1 33 -1 28 29 35 30 37 -1 36 31 32 34 -1 38",
        "16 12 4 3: 39 -1 33 34 28 29 -1 37 36 -1 35 31 30 32 -1 38",
        "16 15 0 0: 26 -1 38 35 25 32 30 29 37 36 34 31 33 27 39 28",
        "16 15 1 3: 39 -1 30 27 38 36 37 35 33 28 25 32 31 26 34 29",
        "16 15 3 3: 39 -1 28 29 30 31 26 37 27 35 32 34 36 25 33 38",
        "16 15 4 0: 39 -1 35 27 30 26 31 36 37 34 28 33 32 25 29 38",
        "16 16 0 3: 29 33 34 31 30 25 37 32 38 24 28 26 27 35 39 36",
        "16 16 1 0: 39 25 37 34 24 31 29 28 36 35 33 30 32 26 38 27",
        "16 16 3 0: 39 27 29 33 35 32 25 34 37 31 26 28 30 24 36 38",
        "16 16 4 3: 39 27 28 29 30 26 25 37 36 34 31 33 35 24 32 38"};

    public static void main(String[] args) {
        newObjectHasNoDraws();
        newObjectHasCourtsOfLikeWorth();
        playersAndLands();
        placesForDraws();
        sizesAndLengths();
        smallerDrawInPlaceOfLarger();
        entrantsTillFull();
        entrantsInOrder();
        seedsNoughtToFour();
        layFromHalfAndOneOn();
        layAllKinds();
        numbersWrapAround();
        layAgainAlike();
        landsParted();
        landsNotParted();
        placesOfEachSize();
        matchesOfEachSize();
        matchesAreFed();
        byesAreEnded();
        whatOfADraw();
        roundsOfEachSize();
        luckyAtTheEdges();
        lastOfManyCalls();
        CHECK.finish();
    }

    /** "no DRAWS" */
    private static void newObjectHasNoDraws() {
        CourtDraws x = new CourtDraws();
        for (int d = -1; d <= 4; d++) {
            CHECK.due("of(" + d + ", 0)", x.of(d, 0), -1);
            CHECK.due("place(" + d + ", 0)", x.place(d, 0), -2);
            CHECK.due("enter(" + d + ", 0)", x.enter(d, 0), CourtDraws.NUMBER);
            CHECK.due("seeds(" + d + ", 0)", x.seeds(d, 0), CourtDraws.NUMBER);
            CHECK.due("lay(" + d + ", 0)", x.lay(d, 0), CourtDraws.NUMBER);
            CHECK.due("lucky(" + d + ", 0, 1)", x.lucky(d, 0, 1), CourtDraws.NUMBER);
            CHECK.due("met(" + d + ", 0, 0)", x.met(d, 0, 0), -1);
            CHECK.due("meeting(" + d + ", 0, 1)", x.meeting(d, 0, 1), -1);
        }
        for (int match = -1; match <= 64; match++) {
            CHECK.due("stands(" + match + ")", x.stands(match), -1);
        }
    }

    /** "COURTS as told": WORTH 0 at first; and what a MATCH is worth: 0 at first. */
    private static void newObjectHasCourtsOfLikeWorth() {
        for (int d = 0; d < 4; d++) {
            CourtDraws x = new CourtDraws();
            Scenes.fill(x, d, 16, 2, 0, 16);
            x.lay(d, 0);
            for (int c = 0; c < 6; c++) {
                CHECK.due("fitted(" + c + ", 0)", x.fitted(c, 0), 16 * d + c);
            }
            for (int c = 0; c < 6; c++) {
                x.court(c, false, false, 0, 600);
                CHECK.due("WORTH 0 is no other", x.fitted(c, 0), 16 * d + c);
            }
            x.court(5, false, false, 1, 600);
            CHECK.due("WORTH 1 is", x.fitted(5, 0), 16 * d);
        }
    }

    /** "PLAYERS are 0 to 39, each of a LAND (0 to 9; 0 at first)" */
    private static void playersAndLands() {
        CourtDraws x = new CourtDraws();
        for (int player = 0; player < 40; player++) {
            CHECK.due("0 at first", x.land(player, 9), 0);
        }
        for (int player = 0; player < 40; player++) {
            CHECK.due("its own", x.land(player, 0), 9);
        }
        for (int land = 0; land <= 9; land++) {
            CHECK.due("land(39, " + land + ")", x.land(39, land), Math.max(0, land - 1));
        }
        CHECK.due("the same LAND again", x.land(39, 9), 9);
        for (int far : FAR) {
            CHECK.due("land(" + far + ", 1)", x.land(far, 1), CourtDraws.NUMBER);
            CHECK.due("land(0, " + far + ")", x.land(0, far), CourtDraws.NUMBER);
        }
        CHECK.due("land(-1, 9)", x.land(-1, 9), CourtDraws.NUMBER);
        CHECK.due("land(40, 0)", x.land(40, 0), CourtDraws.NUMBER);
        CHECK.due("land(39, -1)", x.land(39, -1), CourtDraws.NUMBER);
        CHECK.due("land(0, 10)", x.land(0, 10), CourtDraws.NUMBER);
    }

    /** "DRAWS are 0 to 3"; "d isn't 0 to 3" */
    private static void placesForDraws() {
        CourtDraws x = new CourtDraws();
        for (int d = 0; d < 4; d++) {
            CHECK.due("draw(" + d + ", 4, 2)", x.draw(d, 4, 2), 1);
            for (int other = 0; other < 4; other++) {
                CHECK.due("there are those that were made", x.of(other, 0), other <= d ? 4 : -1);
            }
        }
        CHECK.due("draw(-1, 4, 2)", x.draw(-1, 4, 2), CourtDraws.NUMBER);
        CHECK.due("draw(4, 4, 2)", x.draw(4, 4, 2), CourtDraws.NUMBER);
        for (int far : FAR) {
            CHECK.due("draw(" + far + ", 4, 2)", x.draw(far, 4, 2), CourtDraws.NUMBER);
        }
    }

    /** "size not 4, 8 or 16, length not 2 or 3" */
    private static void sizesAndLengths() {
        CourtDraws x = new CourtDraws();
        for (int size = -20; size <= 40; size++) {
            boolean may = size == 4 || size == 8 || size == 16;
            CHECK.due("draw(3, " + size + ", 2)", x.draw(3, size, 2), may ? 1 : CourtDraws.NUMBER);
        }
        for (int length = -5; length <= 9; length++) {
            boolean may = length == 2 || length == 3;
            CHECK.due("draw(3, 4, " + length + ")", x.draw(3, 4, length), may ? 1 : CourtDraws.NUMBER);
            CHECK.due("LENGTH", x.of(3, 1), length < 3 ? 2 : 3);
        }
        for (int far : FAR) {
            CHECK.due("draw(3, " + far + ", 2)", x.draw(3, far, 2), CourtDraws.NUMBER);
            CHECK.due("draw(3, 8, " + far + ")", x.draw(3, 8, far), CourtDraws.NUMBER);
        }
    }

    /** "A new DRAW in place d, without ENTRANTS, in place of what was (its SLOTS stay)" */
    private static void smallerDrawInPlaceOfLarger() {
        CourtDraws x = new CourtDraws();
        Scenes.fill(x, 3, 16, 3, 0, 16);
        x.seeds(3, 4);
        x.lay(3, 0);
        x.slot(0, 62);
        x.slot(0, 48);
        x.slot(0, 51);
        x.point(48, 0);
        x.walk(49, 0);
        x.over(49, 700);
        x.lucky(3, x.place(3, 15), 39);
        x.draw(3, 4, 2);
        CHECK.due("no ENTRANTS", x.of(3, 2), 0);
        CHECK.due("no SEEDS", x.of(3, 3), 0);
        CHECK.due("not LAID", x.of(3, 4), 0);
        for (int p = -1; p <= 16; p++) {
            CHECK.due("place(3, " + p + ")", x.place(3, p), -2);
        }
        CHECK.due("PLAYER 0 may come anew", x.enter(3, 0), 1);
        CHECK.due("PLAYER 15, too", x.enter(3, 15), 2);
        CHECK.due("the lucky one, too", x.enter(3, 39), 3);
        x.enter(3, 1);
        x.seeds(3, 4);
        x.lay(3, 0);
        CHECK.due("its PLACES", Scenes.places(x, 3), "0 1 39 15");
        CHECK.due("no POINTS", x.score(48, 8), 0);
        CHECK.due("not begun", x.stands(48), 1);
        CHECK.due("not ENDED", x.stands(49), 1);
        CHECK.due("no REAL END", x.end(49), -1);
        CHECK.due("no PLACE of the old one", x.place(3, 4), -2);
        CHECK.due("its last MATCH", x.stands(50), 0);
        CHECK.due("no MATCH of the old one", x.stands(51), -1);
        CHECK.due("nor its last", x.stands(62), -1);
        int[] held = {62, 48, 51, -2000};
        for (int k = 0; k < held.length; k++) {
            CHECK.due("its SLOTS stay", x.held(0, k), held[k]);
        }
        CHECK.due("of a MATCH that is no more", x.time(0, 0, 0), -1);
        CHECK.due("nor this", x.time(0, 2, 0), -1);
    }

    /** "A PLAYER comes to the end of a DRAW's ENTRANTS: how many."; "FULL: as many as its SIZE" */
    private static void entrantsTillFull() {
        for (int size : SIZES) {
            CourtDraws x = new CourtDraws();
            x.draw(0, size, 2);
            for (int i = 0; i < size; i++) {
                CHECK.due("how many so far", x.of(0, 2), i);
                CHECK.due("enter(0, " + (39 - i) + ")", x.enter(0, 39 - i), i + 1);
                CHECK.due("TWICE at once", x.enter(0, 39 - i), CourtDraws.TWICE);
                CHECK.due("TWICE, the first one", x.enter(0, 39), CourtDraws.TWICE);
            }
            CHECK.due("FULL", x.enter(0, 0), CourtDraws.FULL);
            CHECK.due("as many as its SIZE", x.of(0, 2), size);
            x.draw(1, size, 2);
            CHECK.due("PLAYER 0, in another DRAW", x.enter(1, 0), 1);
            CHECK.due("PLAYER 39, in another DRAW", x.enter(1, 39), 2);
            CHECK.due("PLAYER -1", x.enter(1, -1), CourtDraws.NUMBER);
            CHECK.due("PLAYER 40", x.enter(1, 40), CourtDraws.NUMBER);
        }
    }

    /** "ENTRANTS, in the order in which they came": the first of them are SEEDS. */
    private static void entrantsInOrder() {
        CourtDraws x = new CourtDraws();
        x.draw(0, 4, 2);
        int[] comers = {17, 0, 39, 4};
        for (int player : comers) {
            x.enter(0, player);
        }
        x.enter(0, 0);
        x.seeds(0, 4);
        x.lay(0, 0);
        CHECK.due("SEEDS as they came", Scenes.places(x, 0), "17 4 39 0");
    }

    /** "how many of the first of them are SEEDS (0 to 4)"; "it isn't 0 to 4" */
    private static void seedsNoughtToFour() {
        CourtDraws x = new CourtDraws();
        x.draw(0, 16, 2);
        CHECK.due("none at first", x.of(0, 3), 0);
        for (int many = 4; many >= 0; many--) {
            CHECK.due("more than ENTRANTS: " + many, x.seeds(0, many), 1);
            CHECK.due("so many", x.of(0, 3), many);
        }
        CHECK.due("seeds(0, 5)", x.seeds(0, 5), CourtDraws.NUMBER);
        CHECK.due("seeds(0, -1)", x.seeds(0, -1), CourtDraws.NUMBER);
        for (int far : FAR) {
            CHECK.due("seeds(0, " + far + ")", x.seeds(0, far), CourtDraws.NUMBER);
        }
        CHECK.due("none still", x.of(0, 3), 0);
    }

    /** "UNKNOWN: there are fewer than n / 2 + 1 ENTRANTS, or fewer than SEEDS"; "how many BYES" */
    private static void layFromHalfAndOneOn() {
        for (int size : SIZES) {
            for (int many = 0; many <= size; many++) {
                CourtDraws x = new CourtDraws();
                Scenes.fill(x, 0, size, 2, 0, many);
                int want = many <= size / 2 ? CourtDraws.UNKNOWN : size - many;
                CHECK.due("lay of " + many + " of " + size, x.lay(0, 7), want);
                CHECK.due("LAID", x.of(0, 4), want < 0 ? 0 : 1);
            }
        }
        for (int seeds = 0; seeds <= 4; seeds++) {
            for (int many = 3; many <= 4; many++) {
                CourtDraws x = new CourtDraws();
                Scenes.fill(x, 0, 4, 2, 0, many);
                x.seeds(0, seeds);
                int want = many < seeds ? CourtDraws.UNKNOWN : 4 - many;
                CHECK.due("lay of " + many + " with " + seeds + " SEEDS", x.lay(0, 7), want);
            }
        }
        CourtDraws x = new CourtDraws();
        Scenes.fill(x, 0, 4, 2, 0, 3);
        x.seeds(0, 4);
        x.lay(0, 7);
        CHECK.due("one more comes, behind the refusal", x.enter(0, 3), 4);
        CHECK.due("LAID then", x.lay(0, 7), 0);
    }

    private static void comeDown(CourtDraws x, int size, int many) {
        x.draw(0, size, 2);
        for (int i = 0; i < many; i++) {
            x.enter(0, 39 - i);
        }
    }

    /** "TO LAY a DRAW": SEEDS none to four, BYES none to most, for both first NUMBERS. */
    private static void layAllKinds() {
        CourtDraws x = new CourtDraws();
        for (int player = 0; player < 40; player++) {
            x.land(player, player % 10);
        }
        for (String row : LAID) {
            String[] parts = row.split(": ");
            String[] told = parts[0].split(" ");
            int size = Integer.parseInt(told[0]);
            int many = Integer.parseInt(told[1]);
            comeDown(x, size, many);
            x.seeds(0, Integer.parseInt(told[2]));
            CHECK.due("BYES of " + parts[0], x.lay(0, Integer.parseInt(told[3])), size - many);
            CHECK.due("PLACES of " + parts[0], Scenes.places(x, 0), parts[1]);
        }
    }

    /** "(an int, wrapping); the NUMBER is what the int's highest 16 bits, as a number of 16 bits without sign" */
    private static void numbersWrapAround() {
        int[] seeds = {0, 1, -1, Integer.MAX_VALUE, Integer.MIN_VALUE, 65535, -65536};
        String[] due = {"2 1 3 0", "3 1 0 2", "2 0 3 1", "3 2 0 1", "3 2 1 0", "0 3 1 2", "2 0 1 3"};
        for (int i = 0; i < seeds.length; i++) {
            CourtDraws x = new CourtDraws();
            Scenes.lands(x, 0, 0, 1, 2, 3);
            Scenes.fill(x, 0, 4, 2, 0, 4);
            x.lay(0, seeds[i]);
            CHECK.due("by seed " + seeds[i], Scenes.places(x, 0), due[i]);
        }
    }

    /** "x (the seed told, at first)": nothing of another laying is left in it. */
    private static void layAgainAlike() {
        CourtDraws x = new CourtDraws();
        Scenes.lands(x, 0, 1, 2, 3, 4, 5, 6, 7, 8);
        for (int d = 0; d < 4; d++) {
            Scenes.fill(x, d, 8, 2, 0, 8);
            x.lay(d, 9);
            CHECK.due("DRAW " + d, Scenes.places(x, d), Scenes.places(x, 0));
        }
        Scenes.fill(x, 0, 8, 2, 0, 8);
        x.lay(0, 10);
        CHECK.due("another seed", Scenes.places(x, 0).equals(Scenes.places(x, 1)), false);
    }

    private static void dueParted(String what, int size, int many, int seeds, int seed, String want, int... lands) {
        CourtDraws x = new CourtDraws();
        Scenes.lands(x, 0, lands);
        Scenes.fill(x, 0, size, 2, 0, many);
        x.seeds(0, seeds);
        x.lay(0, seed);
        CHECK.due(what, Scenes.places(x, 0), want);
    }

    /** "if PLAYERS of one LAND stand in it, and one isn't a SEED ...: they change" */
    private static void landsParted() {
        dueParted("0 1 4 5: the second PLACE's, for the first's is SEED 1", 8, 8, 1, 9, "0 4 1 5 3 7 2 6",
            1, 1, 2, 3, 4, 5, 6, 7);
        dueParted("4 3 in the second PAIR: the first PLACE's, for the second's is SEED 4", 8, 8, 4, 2,
            "0 7 6 3 2 4 5 1", 1, 2, 3, 4, 4, 5, 6, 7);
        dueParted("1 0: the second PLACE's, where neither is a SEED", 8, 8, 0, 10, "1 3 0 7 5 2 4 6",
            1, 1, 2, 3, 4, 5, 6, 7);
        dueParted("1 0 7 2: neither 7 nor 2, for then a PAIR would have two of one LAND", 8, 8, 0, 55,
            "1 6 7 2 0 4 5 3", 1, 1, 1, 3, 4, 5, 6, 7);
        dueParted("0 1 2 7: neither 2 nor 7", 8, 8, 0, 1, "0 4 2 7 1 3 5 6", 1, 1, 1, 3, 4, 5, 6, 7);
        dueParted("4 3, then SEED 3 and a BYE: neither changes, 8 does", 16, 13, 3, 28,
            "0 -1 7 9 12 5 4 8 2 -1 3 6 10 11 -1 1", 0, 1, 2, 3, 3, 5, 6, 7, 8, 9, 4, 5, 6);
        dueParted("four PAIRS in turn", 16, 16, 0, 389, "10 8 1 3 7 15 13 6 5 12 14 4 11 9 2 0",
            0, 1, 2, 0, 1, 2, 0, 1, 2, 0, 1, 2, 0, 1, 2, 0);
        dueParted("of two LANDS, with SEEDS", 16, 16, 2, 208, "0 9 12 3 14 15 10 11 5 4 13 6 2 7 8 1",
            0, 1, 0, 1, 0, 1, 0, 1, 0, 1, 0, 1, 0, 1, 0, 1);
        dueParted("SEEDS 1 and 2 stay, 3 and 2 change", 4, 4, 2, 0, "0 2 3 1", 1, 2, 2, 1);
        CourtDraws x = new CourtDraws();
        Scenes.lands(x, 0, 5, 1, 1, 3);
        Scenes.fill(x, 0, 4, 2, 1, 3);
        x.enter(0, 0);
        x.lay(0, 4);
        CHECK.due("1 2 0 3: PLAYER 0 changes, too", Scenes.places(x, 0), "1 0 2 3");
    }

    private static void landsNotParted() {
        dueParted("both are SEEDS", 4, 4, 4, 0, "0 3 2 1", 1, 2, 2, 1);
        dueParted("both are SEEDS, though a later one isn't", 4, 4, 3, 3, "0 2 3 1", 1, 2, 1, 4);
        dueParted("3 isn't, but both of the later PAIR are SEEDS", 4, 4, 3, 0, "0 3 2 1", 1, 2, 2, 1);
        dueParted("all of LAND 0, as at first", 8, 8, 0, 0, "6 2 1 7 5 3 0 4", 0, 0, 0, 0, 0, 0, 0, 0);
        dueParted("all of LAND 9", 8, 8, 0, 0, "6 2 1 7 5 3 0 4", 9, 9, 9, 9, 9, 9, 9, 9);
        dueParted("1 0 stand in the last PAIR: there is no later one", 8, 8, 0, 17, "5 2 6 4 7 3 1 0",
            1, 1, 2, 3, 4, 5, 6, 7);
        dueParted("2 1 3 0: 3's PAIR has one of that LAND, too", 4, 4, 0, 0, "2 1 3 0", 1, 1, 1, 2);
        dueParted("the first PAIR changes, the others can't", 16, 16, 0, 5, "10 15 7 6 1 2 14 8 0 5 12 4 3 13 11 9",
            0, 0, 0, 0, 0, 0, 0, 0, 0, 0, 0, 0, 0, 1, 2, 3);
        dueParted("a BYE is of no LAND", 4, 3, 1, 0, "0 -1 2 1", 0, 1, 2);
    }

    /** "PLACES of a DRAW are 0 to n - 1"; "-2: there is no such DRAW, PLACE, or it isn't LAID" */
    private static void placesOfEachSize() {
        for (int size : SIZES) {
            for (int d = 0; d < 4; d++) {
                CourtDraws x = new CourtDraws();
                Scenes.fill(x, d, size, 2, 0, size / 2 + 1);
                CHECK.due("not LAID", x.place(d, 0), -2);
                x.seeds(d, 2);
                x.lay(d, 0);
                CHECK.due("place -1 of " + size, x.place(d, -1), -2);
                CHECK.due("place 0 of " + size, x.place(d, 0), 0);
                CHECK.due("a BYE of " + size, x.place(d, 1), -1);
                CHECK.due("the last of " + size, x.place(d, size - 1), 1);
                CHECK.due("one behind the last of " + size, x.place(d, size), -2);
                for (int other = -1; other <= 4; other++) {
                    CHECK.due("of DRAW " + other, x.place(other, 0), other == d ? 0 : -2);
                }
                for (int far : FAR) {
                    CHECK.due("place(" + d + ", " + far + ")", x.place(d, far), -2);
                    CHECK.due("place(" + far + ", 0)", x.place(far, 0), -2);
                }
            }
        }
    }

    /** "MATCHES of a DRAW are numbered 0 to n - 2"; "A MATCH is told as 16 times its DRAW and its number." */
    private static void matchesOfEachSize() {
        for (int size : SIZES) {
            for (int d = 0; d < 4; d++) {
                CourtDraws x = new CourtDraws();
                Scenes.fill(x, d, size, 2, 0, size);
                x.lay(d, 0);
                for (int match = -2; match <= 66; match++) {
                    int number = match - 16 * d;
                    int want = number < 0 || number > size - 2 ? -1 : number < size / 2 ? 1 : 0;
                    CHECK.due("stands(" + match + ") of DRAW " + d + " of " + size, x.stands(match), want);
                }
            }
        }
    }

    /** "match j of a later round is fed by matches 2 j and 2 j + 1 of the round ahead" */
    private static void matchesAreFed() {
        for (int size : SIZES) {
            CourtDraws x = new CourtDraws();
            Scenes.fill(x, 2, size, 2, 10, size);
            x.lay(2, 77);
            int ahead = 32;
            for (int many = size / 2; many > 1; many /= 2) {
                for (int j = 0; j < many; j++) {
                    int fed = ahead + many + j / 2;
                    int won = (j + many / 2) % 2;
                    CHECK.due("not known ahead of " + (ahead + j), x.side(fed, j % 2), -1);
                    int who = x.side(ahead + j, won);
                    CHECK.due("walk(" + (ahead + j) + ")", x.walk(ahead + j, won), 1);
                    CHECK.due("its winner goes to " + fed, x.side(fed, j % 2), who);
                }
                ahead += many;
            }
            CHECK.due("the last MATCH", ahead, 32 + size - 2);
            CHECK.due("it ends the DRAW", x.walk(ahead, 1), 1);
            CHECK.due("no round is left", x.of(2, 6), 0);
        }
    }

    /** "A MATCH of a BYE is ENDED, the other SIDE having won." */
    private static void byesAreEnded() {
        CourtDraws x = new CourtDraws();
        Scenes.fill(x, 0, 8, 2, 0, 5);
        x.seeds(0, 4);
        x.lay(0, 3);
        CHECK.due("PLACES", Scenes.places(x, 0), "0 -1 -1 2 3 4 -1 1");
        int[] stands = {6, 6, 1, 6, 1, 0, 0};
        int[] winners = {0, 1, -1, 1, -1, -1, -1};
        for (int match = 0; match < 7; match++) {
            CHECK.due("stands(" + match + ")", x.stands(match), stands[match]);
            CHECK.due("winner(" + match + ")", x.winner(match), winners[match]);
        }
        CHECK.due("both SIDES come from BYES", x.side(4, 0), 0);
        CHECK.due("the other one", x.side(4, 1), 2);
        CHECK.due("one SIDE comes from a BYE", x.side(5, 1), 1);
        CHECK.due("the other one isn't known", x.side(5, 0), -1);
        CHECK.due("as many ENDED as BYES", x.of(0, 5), 3);
        CourtDraws y = new CourtDraws();
        Scenes.fill(y, 1, 16, 2, 0, 9);
        y.lay(1, 0);
        CHECK.due("PLACES", Scenes.places(y, 1), "3 -1 8 -1 7 -1 1 -1 6 -1 0 -1 5 -1 4 2");
        for (int match = 16; match < 24; match++) {
            CHECK.due("stands(" + match + ")", y.stands(match), match < 23 ? 6 : 1);
            CHECK.due("winner(" + match + ")", y.winner(match), match < 23 ? 0 : -1);
        }
    }

    /** "Of a DRAW: what = 0 ... 6"; "-1: there is no such DRAW, another what" */
    private static void whatOfADraw() {
        for (int d = 0; d < 4; d++) {
            CourtDraws x = new CourtDraws();
            Scenes.fill(x, d, 4, 3, 0, 3);
            x.seeds(d, 1);
            int[] first = {4, 3, 3, 1, 0, 0, 2};
            int[] laid = {4, 3, 3, 1, 1, 1, 2};
            int[] oneRound = {4, 3, 3, 1, 1, 2, 1};
            int[] over = {4, 3, 3, 1, 1, 3, 0};
            dueOf(x, d, first);
            x.lay(d, 0);
            dueOf(x, d, laid);
            x.walk(16 * d + 1, 0);
            dueOf(x, d, oneRound);
            x.walk(16 * d + 2, 0);
            dueOf(x, d, over);
            for (int other = -1; other <= 4; other++) {
                CHECK.due("of(" + other + ", 0)", x.of(other, 0), other == d ? 4 : -1);
            }
            for (int far : FAR) {
                CHECK.due("of(" + far + ", 0)", x.of(far, 0), -1);
                CHECK.due("of(" + d + ", " + far + ")", x.of(d, far), -1);
            }
        }
    }

    /** "5 how many of its MATCHES are ENDED, 6 how many rounds have a MATCH that isn't ENDED" */
    private static void roundsOfEachSize() {
        for (int size : SIZES) {
            CourtDraws x = new CourtDraws();
            Scenes.fill(x, 0, size, 2, 0, size);
            int rounds = Integer.numberOfTrailingZeros(size);
            CHECK.due("rounds of " + size + ", not LAID", x.of(0, 6), rounds);
            x.lay(0, 0);
            int ended = 0;
            for (int many = size / 2; many >= 1; many /= 2) {
                for (int j = 0; j < many; j++) {
                    CHECK.due("rounds of " + size + " at " + ended, x.of(0, 6), rounds);
                    CHECK.due("ENDED of " + size, x.of(0, 5), ended);
                    x.walk(ended, j % 2);
                    ended++;
                }
                rounds--;
            }
            CHECK.due("no round of " + size, x.of(0, 6), 0);
            CHECK.due("all ENDED of " + size, x.of(0, 5), size - 1);
            x.undo(size - 2);
            CHECK.due("one round of " + size, x.of(0, 6), 1);
        }
        CourtDraws y = new CourtDraws();
        Scenes.fill(y, 0, 8, 2, 0, 8);
        y.lay(0, 0);
        int[] played = {0, 1, 2, 4};
        for (int match : played) {
            y.walk(match, 0);
        }
        CHECK.due("one is left of round 0, though round 1 began", y.of(0, 6), 3);
        y.walk(3, 0);
        CHECK.due("none is", y.of(0, 6), 2);
    }

    private static void dueOf(CourtDraws x, int d, int[] want) {
        for (int what = -1; what <= 7; what++) {
            CHECK.due("of(" + d + ", " + what + ")", x.of(d, what), what < 0 || what > 6 ? -1 : want[what]);
        }
    }

    /** "PLAYER b stands in place of PLAYER a on its PLACE" */
    private static void luckyAtTheEdges() {
        CourtDraws x = new CourtDraws();
        Scenes.fill(x, 3, 16, 2, 1, 9);
        x.seeds(3, 2);
        x.lay(3, 0);
        CHECK.due("on the first PLACE, PLAYER 0", x.lucky(3, x.place(3, 0), 0), 1);
        CHECK.due("there", x.place(3, 0), 0);
        CHECK.due("behind its BYE", x.side(56, 0), 0);
        CHECK.due("on the last PLACE, PLAYER 39", x.lucky(3, x.place(3, 15), 39), 1);
        CHECK.due("there", x.place(3, 15), 39);
        CHECK.due("ENTRANTS as many as before", x.of(3, 2), 9);
        CHECK.due("PLAYER 0 gives way", x.lucky(3, 0, 38), 1);
        CHECK.due("PLAYER 39 gives way", x.lucky(3, 39, 37), 1);
        int b = 10;
        for (int p = 0; p < 16; p++) {
            int a = x.place(3, p);
            if (a >= 0) {
                CHECK.due("lucky on PLACE " + p, x.lucky(3, a, b), 1);
                CHECK.due("it stands there", x.place(3, p), b);
                b++;
            }
        }
        CHECK.due("all nine gave way", b, 19);
        int stands = 10;
        for (int player = 19; player < 37; player++) {
            CHECK.due("one who never came: " + player, x.lucky(3, stands, player), 1);
            stands = player;
        }
        for (int player = 0; player < 40; player++) {
            CHECK.due("now all were: " + player, x.lucky(3, stands, player), CourtDraws.TWICE);
        }
    }

    /** "An object is used for at most 512 calls after it has been made": the last of them is answered like others. */
    private static void lastOfManyCalls() {
        CourtDraws x = new CourtDraws();
        for (int call = 0; call < 511; call++) {
            CHECK.due("call " + call, x.land(call % 40, call / 40 % 10), call < 40 ? 0 : (call / 40 - 1) % 10);
        }
        CHECK.due("the 512th call", x.land(511 % 40, 0), 1);
    }
}
