/** Promises 11, 12, 16, 17 and Terms 2: each sentence that names a boundary of POINTS, games, SETS, SERVES and ENDS. */
public final class ScoreEdgesTest {
    private static final Check CHECK = new Check("ScoreEdgesTest");
    private static final int[] FAR = {Integer.MIN_VALUE, -1000, 1000, Integer.MAX_VALUE};
    private static final String SIX_ALL = "010101010101";

    public static void main(String[] args) {
        gamesOfFourPoints();
        gamesOfMorePoints();
        setsOfSixGames();
        setsOfSevenGames();
        tiesOfSevenPoints();
        tiesOfMorePoints();
        tieInTheLastSet();
        matchesOfTwoSets();
        matchesOfThreeSets();
        pointsTillFull();
        pointsOfEachMatch();
        serversGameByGame();
        serversThroughSets();
        serversInTies();
        endsOfGames();
        endsOfTies();
        backOverEachEdge();
        scoreAsked();
        scoreBehindTheEnd();
        gamesAsked();
        gamesBehindTheEnd();
        CHECK.finish();
    }

    private static String side(int side, int many) {
        return String.valueOf(side).repeat(many);
    }

    /** Games of a SET that a SIDE wins, the other one having won so many (0 to 5) of them. */
    private static String set(int side, int others) {
        return others < 5 ? side(1 - side, others) + side(side, 6) : "0101010101" + side(side, 2);
    }

    private static void dueScore(String what, CourtDraws x, String want) {
        CHECK.due(what, Scenes.score(x, 0), want);
    }

    /** "GAME: who has 4 points and 2 more than the other wins it." With 0, 1 or 2 of the other. */
    private static void gamesOfFourPoints() {
        for (int side = 0; side < 2; side++) {
            for (int others = 0; others <= 2; others++) {
                CourtDraws x = Scenes.four(2);
                Scenes.points(x, 0, side(1 - side, others));
                CHECK.due("3 : " + others, Scenes.points(x, 0, side(side, 3)), 0);
                CHECK.due("its POINTS", x.score(0, side), 3);
                CHECK.due("the other's", x.score(0, 1 - side), others);
                CHECK.due("4 : " + others, x.point(0, side), 1);
                CHECK.due("no POINTS behind it", x.score(0, 0) + x.score(0, 1), 0);
                CHECK.due("one game", x.score(0, 2 + side), 1);
                CHECK.due("none of the other", x.score(0, 3 - side), 0);
            }
        }
    }

    /** "and 2 more than the other": from 3 : 3 on. */
    private static void gamesOfMorePoints() {
        for (int side = 0; side < 2; side++) {
            CourtDraws x = Scenes.four(2);
            Scenes.points(x, 0, "000111");
            for (int each = 3; each < 40; each++) {
                CHECK.due("one more than " + each, x.point(0, side), 0);
                CHECK.due("like ones again", x.point(0, 1 - side), 0);
                CHECK.due("POINTS of the game", x.score(0, side), each + 1);
            }
            CHECK.due("one more", x.point(0, side), 0);
            CHECK.due("two more", x.point(0, side), 1);
            CHECK.due("the game", x.score(0, 2 + side), 1);
        }
    }

    /** "SET: who has 6 games and 2 more than the other wins it" With 0 to 4 of the other. */
    private static void setsOfSixGames() {
        for (int side = 0; side < 2; side++) {
            for (int others = 0; others <= 4; others++) {
                CourtDraws x = Scenes.four(2);
                Scenes.games(x, 0, side(1 - side, others));
                CHECK.due("5 : " + others, Scenes.games(x, 0, side(side, 5)), 1);
                CHECK.due("no SET yet", x.score(0, 4 + side), 0);
                CHECK.due("6 : " + others, Scenes.games(x, 0, side(side, 1)), 2);
                CHECK.due("one SET", x.score(0, 4 + side), 1);
                CHECK.due("none of the other", x.score(0, 5 - side), 0);
                CHECK.due("no games behind it", x.score(0, 2) + x.score(0, 3), 0);
                CHECK.due("its games", x.games(0, 0, side), 6);
                CHECK.due("the other's", x.games(0, 0, 1 - side), others);
            }
        }
    }

    /** 6 : 5 is no SET; 7 : 5 is one; "at 6 games each the next game is a TIE" */
    private static void setsOfSevenGames() {
        for (int side = 0; side < 2; side++) {
            CourtDraws x = Scenes.four(2);
            Scenes.games(x, 0, "0101010101");
            CHECK.due("6 : 5", Scenes.games(x, 0, side(side, 1)), 1);
            CHECK.due("a game of 4 POINTS still", Scenes.games(x, 0, side(side, 1)), 2);
            CHECK.due("7 games", x.games(0, 0, side), 7);
            CHECK.due("5 games", x.games(0, 0, 1 - side), 5);
            x = Scenes.four(2);
            Scenes.games(x, 0, "0101010101" + side(side, 1));
            CHECK.due("6 : 6", Scenes.games(x, 0, side(1 - side, 1)), 1);
            CHECK.due("4 POINTS are no TIE", Scenes.points(x, 0, side(side, 4)), 0);
            CHECK.due("nor 6", Scenes.points(x, 0, side(side, 2)), 0);
            CHECK.due("6 games each still", x.score(0, 2) + 10 * x.score(0, 3), 66);
        }
    }

    /** "a TIE: who has 7 points and 2 more than the other wins it, and the SET" With 0 to 5 of the other. */
    private static void tiesOfSevenPoints() {
        for (int side = 0; side < 2; side++) {
            for (int others = 0; others <= 5; others++) {
                CourtDraws x = Scenes.four(2);
                Scenes.games(x, 0, SIX_ALL);
                Scenes.points(x, 0, side(1 - side, others));
                CHECK.due("6 : " + others, Scenes.points(x, 0, side(side, 6)), 0);
                CHECK.due("7 : " + others, x.point(0, side), 2);
                CHECK.due("the SET", x.score(0, 4 + side), 1);
                CHECK.due("with 7 games", x.games(0, 0, side), 7);
                CHECK.due("to 6", x.games(0, 0, 1 - side), 6);
                CHECK.due("the next SET's games", x.games(0, 1, 0) + x.games(0, 1, 1), 0);
                CHECK.due("the next game is one of 4", Scenes.points(x, 0, "1111"), 1);
            }
        }
    }

    private static void tiesOfMorePoints() {
        for (int side = 0; side < 2; side++) {
            CourtDraws x = Scenes.four(2);
            Scenes.games(x, 0, SIX_ALL);
            CHECK.due("6 : 6 POINTS", Scenes.points(x, 0, SIX_ALL), 0);
            for (int each = 6; each < 30; each++) {
                CHECK.due("one more than " + each, x.point(0, side), 0);
                CHECK.due("like ones again", x.point(0, 1 - side), 0);
            }
            CHECK.due("one more", x.point(0, side), 0);
            CHECK.due("two more", x.point(0, side), 2);
            CHECK.due("the SET", x.score(0, 4 + side), 1);
        }
    }

    /** The TIE is of each SET, the last one, too. */
    private static void tieInTheLastSet() {
        for (int length = 2; length <= 3; length++) {
            CourtDraws x = Scenes.four(length);
            for (int i = 1; i < length; i++) {
                Scenes.games(x, 0, set(0, 0) + set(1, 0));
            }
            Scenes.games(x, 0, SIX_ALL);
            CHECK.due("6 : 0 of the TIE", Scenes.points(x, 0, "111111"), 0);
            CHECK.due("7 : 0 ends the MATCH", x.point(0, 1), 3);
            CHECK.due("by POINTS", x.stands(0), 3);
            CHECK.due("won by SIDE 1", x.winner(0), 1);
            CHECK.due("7 games of the last SET", x.games(0, 2 * length - 2, 1), 7);
        }
    }

    /** "The MATCH is ENDED, won by who has LENGTH SETS." */
    private static void matchesOfTwoSets() {
        for (int side = 0; side < 2; side++) {
            CourtDraws x = Scenes.four(2);
            CHECK.due("1 : 0", Scenes.games(x, 0, set(side, 4)), 2);
            CHECK.due("not ENDED", x.stands(0), 2);
            CHECK.due("2 : 0", Scenes.games(x, 0, set(side, 5)), 3);
            CHECK.due("won", x.winner(0), side);
            x = Scenes.four(2);
            CHECK.due("1 : 1", Scenes.games(x, 0, set(1 - side, 0) + set(side, 0)), 2);
            CHECK.due("not ENDED at 1 : 1", x.winner(0), -1);
            CHECK.due("2 : 1", Scenes.games(x, 0, set(side, 0)), 3);
            CHECK.due("won by 2 : 1", x.winner(0), side);
            CHECK.due("SETS", 10 * x.score(0, 4 + side) + x.score(0, 5 - side), 21);
        }
    }

    private static void matchesOfThreeSets() {
        for (int side = 0; side < 2; side++) {
            for (int others = 0; others <= 2; others++) {
                CourtDraws x = Scenes.four(3);
                for (int i = 0; i < others; i++) {
                    CHECK.due("a SET of the other", Scenes.games(x, 0, set(1 - side, 0)), 2);
                }
                CHECK.due("2 : " + others, Scenes.games(x, 0, set(side, 0) + set(side, 0)), 2);
                CHECK.due("not ENDED", x.winner(0), -1);
                CHECK.due("3 : " + others, Scenes.games(x, 0, set(side, 0)), 3);
                CHECK.due("won", x.winner(0), side);
                CHECK.due("SETS", 10 * x.score(0, 4 + side) + x.score(0, 5 - side), 30 + others);
            }
        }
    }

    /** "(at most 300)"; "FULL: it has 300 POINTS" */
    private static void pointsTillFull() {
        for (int side = 0; side < 2; side++) {
            CourtDraws x = Scenes.four(3);
            CHECK.due("299 POINTS", Scenes.points(x, 0, "01".repeat(149) + "0"), 0);
            CHECK.due("so many", x.score(0, 8), 299);
            CHECK.due("the 300th", x.point(0, side), 1 - side);
            CHECK.due("the 301st", x.point(0, 1 - side), CourtDraws.FULL);
            CHECK.due("300", x.score(0, 8), 300);
            CHECK.due("it goes on", x.stands(0), 2);
            CHECK.due("another MATCH has room", x.point(1, 0), 0);
            CHECK.due("one back", x.back(0), 299);
            CHECK.due("room for one", x.point(0, 1), 0);
            CHECK.due("and no more", x.point(0, 1), CourtDraws.FULL);
        }
    }

    /** "A MATCH has POINTS": each its own, the first and the last of 300, too. */
    private static void pointsOfEachMatch() {
        CourtDraws x = new CourtDraws();
        Scenes.fill(x, 3, 16, 3, 0, 16);
        x.lay(3, 0);
        for (int match = 48; match < 63; match++) {
            Scenes.points(x, match, (match % 2 == 0 ? "01" : "10").repeat(150));
            CHECK.due("all of MATCH " + match, x.score(match, 8), 300);
            if (match < 62) {
                x.retire(match, 0);
            }
        }
        for (int match = 62; match >= 48; match--) {
            x.undo(match);
            for (int left = 299; left >= 0; left--) {
                CHECK.due("back(" + match + ")", x.back(match), left);
                CHECK.due("POINTS of SIDE 0", x.score(match, 0), match % 2 == 0 ? (left + 1) / 2 : left / 2);
                CHECK.due("POINTS of SIDE 1", x.score(match, 1), match % 2 == 0 ? left / 2 : (left + 1) / 2);
            }
        }
    }

    /** "SIDE 0 SERVES the first game, then SIDES change game by game" */
    private static void serversGameByGame() {
        CourtDraws x = Scenes.four(2);
        for (int game = 0; game < 12; game++) {
            for (int point = 0; point < 4; point++) {
                CHECK.due("game " + game + ", point " + point, x.score(0, 6), game % 2);
                x.point(0, game % 2);
            }
        }
    }

    /** "through all SETS": a SET of an odd number of games leaves the turn to SIDE 1. */
    private static void serversThroughSets() {
        for (int others = 0; others <= 5; others++) {
            CourtDraws x = Scenes.four(2);
            Scenes.games(x, 0, set(0, others));
            int games = others < 5 ? 6 + others : 12;
            CHECK.due("behind " + games + " games", x.score(0, 6), games % 2);
            Scenes.games(x, 0, "1");
            CHECK.due("behind one more", x.score(0, 6), (games + 1) % 2);
        }
    }

    /**
     * "(a TIE is a game, too, of the SIDE whose turn it is)"; "In a TIE the SIDE whose turn it is SERVES the first
     * point, the other one the next two, then two each."
     */
    private static void serversInTies() {
        String[] ahead = {"", set(0, 1)};
        for (int turn = 0; turn < 2; turn++) {
            CourtDraws x = Scenes.four(2);
            Scenes.games(x, 0, ahead[turn] + SIX_ALL);
            StringBuilder served = new StringBuilder();
            for (int point = 0; point < 16; point++) {
                served.append(x.score(0, 6) == turn ? 'a' : 'b');
                x.point(0, point % 2);
            }
            CHECK.due("turn of SIDE " + turn, served.toString(), "abbaabbaabbaabba");
            Scenes.points(x, 0, "11");
            CHECK.due("the TIE is won", x.score(0, 5), 1);
            CHECK.due("the other one's turn", x.score(0, 6), 1 - turn);
        }
        for (int side = 0; side < 2; side++) {
            CourtDraws x = Scenes.four(2);
            Scenes.games(x, 0, SIX_ALL);
            StringBuilder served = new StringBuilder();
            for (int point = 0; point < 7; point++) {
                served.append(x.score(0, 6));
                x.point(0, side);
            }
            CHECK.due("whoever wins the points", served.toString(), "0110011");
            CHECK.due("a TIE to nothing", x.score(0, 4 + side), 1);
        }
    }

    /** "ENDS change behind each game with which the games of the SET are odd in number" */
    private static void endsOfGames() {
        CourtDraws x = Scenes.four(2);
        for (int game = 1; game <= 12; game++) {
            CHECK.due("within game " + game, Scenes.points(x, 0, side(game % 2, 3)), 0);
            CHECK.due("no change in it", x.score(0, 7), game / 2);
            x.point(0, game % 2);
            CHECK.due("behind game " + game, x.score(0, 7), (game + 1) / 2);
        }
        int[] changes = {3, 4, 4, 5, 5, 6};
        for (int others = 0; others <= 5; others++) {
            CourtDraws y = Scenes.four(2);
            Scenes.games(y, 0, set(1, others));
            CHECK.due("behind a SET with " + others, y.score(0, 7), changes[others]);
            Scenes.games(y, 0, "0");
            CHECK.due("the first game of the next", y.score(0, 7), changes[others] + 1);
            Scenes.games(y, 0, "0");
            CHECK.due("the second", y.score(0, 7), changes[others] + 1);
        }
    }

    /** "and in a TIE behind each sixth point (if the TIE isn't won by it)"; the TIE's own game is the thirteenth. */
    private static void endsOfTies() {
        CourtDraws x = Scenes.four(2);
        Scenes.games(x, 0, SIX_ALL);
        for (int point = 1; point <= 30; point++) {
            x.point(0, point % 2);
            CHECK.due("behind point " + point, x.score(0, 7), 6 + point / 6);
        }
        Scenes.points(x, 0, "00");
        CHECK.due("won by 17 : 15", x.score(0, 7), 6 + 5 + 1);
        dueEndsOfTie("111111" + "1", 1);
        dueEndsOfTie("00000" + "1111111", 1);
        dueEndsOfTie("0000" + "1111111", 1);
        dueEndsOfTie(SIX_ALL + "00", 2);
        dueEndsOfTie(SIX_ALL + "0101" + "00", 2);
        dueEndsOfTie(SIX_ALL + "010101" + "00", 3);
    }

    private static void dueEndsOfTie(String points, int within) {
        CourtDraws x = Scenes.four(2);
        Scenes.games(x, 0, SIX_ALL);
        CHECK.due("the TIE is won", Scenes.points(x, 0, points), 2);
        CHECK.due("ENDS behind " + points, x.score(0, 7), 6 + within + 1);
    }

    /** "The latest POINT of a MATCH is taken back: how many are left." */
    private static void backOverEachEdge() {
        String[] aheads = {"", "0001", side(0, 15), side(0, 47), "01".repeat(149), "01".repeat(20) + "0"};
        for (String ahead : aheads) {
            for (int side = 0; side < 2; side++) {
                CourtDraws x = Scenes.four(2);
                Scenes.points(x, 0, ahead);
                dueSameBehindBack(x, side);
            }
        }
        CourtDraws x = Scenes.four(2);
        Scenes.games(x, 0, SIX_ALL);
        Scenes.points(x, 0, "000000");
        dueSameBehindBack(x, 0);
        CHECK.due("back to the TIE's sixth point", x.back(0), 53);
        dueScore("ahead of that change of ENDS", x, "5 0 6 6 0 0 1 6 53 2");
        x = Scenes.four(2);
        Scenes.points(x, 0, "01".repeat(150));
        for (int left = 299; left >= 0; left--) {
            CHECK.due("back from FULL", x.back(0), left);
        }
        CHECK.due("none is left", x.back(0), CourtDraws.UNKNOWN);
        dueScore("as if not begun", x, "0 0 0 0 0 0 0 0 0 2");
    }

    private static void dueSameBehindBack(CourtDraws x, int side) {
        String before = Scenes.everything(x);
        int many = x.score(0, 8);
        CHECK.due("a POINT", x.point(0, side) >= 0, true);
        CHECK.due("taken back", x.back(0), many);
        CHECK.due("all as before", Scenes.everything(x), before);
    }

    /** "-1: there is no such MATCH (of a LAID DRAW), another what" */
    private static void scoreAsked() {
        CourtDraws x = Scenes.four(3);
        Scenes.games(x, 0, set(0, 3) + "001");
        Scenes.points(x, 0, "110");
        dueScore("each of ten", x, "1 2 2 1 1 0 0 7 51 3");
        CHECK.due("score(0, -1)", x.score(0, -1), -1);
        CHECK.due("score(0, 10)", x.score(0, 10), -1);
        CHECK.due("the last MATCH, not known", Scenes.score(x, 2), "0 0 0 0 0 0 0 0 0 3");
        CHECK.due("score(3, 9)", x.score(3, 9), -1);
        CHECK.due("score(-1, 9)", x.score(-1, 9), -1);
        for (int far : FAR) {
            CHECK.due("score(0, " + far + ")", x.score(0, far), -1);
            CHECK.due("score(" + far + ", 9)", x.score(far, 9), -1);
        }
        x.draw(1, 4, 2);
        CHECK.due("not LAID", x.score(16, 9), -1);
        CHECK.due("another LENGTH", Scenes.four(2).score(2, 9), 2);
    }

    /** "(Behind a MATCH that is ENDED by POINTS: 0 to 3 as behind its last SET: 0; 6 and 7 as if it went on.)" */
    private static void scoreBehindTheEnd() {
        CourtDraws x = Scenes.four(2);
        Scenes.games(x, 0, set(1, 0) + set(1, 0));
        dueScore("of twelve games", x, "0 0 0 0 0 2 0 6 48 2");
        x = Scenes.four(2);
        Scenes.games(x, 0, set(1, 0) + set(1, 1));
        dueScore("of thirteen games", x, "0 0 0 0 0 2 1 7 52 2");
        x = Scenes.four(2);
        Scenes.games(x, 0, set(0, 0) + SIX_ALL);
        Scenes.points(x, 0, "0000000");
        dueScore("by a TIE", x, "0 0 0 0 2 0 1 11 79 2");
        x = Scenes.four(2);
        Scenes.games(x, 0, set(0, 0) + "0010");
        Scenes.points(x, 0, "011");
        x.retire(0, 0);
        dueScore("by RETIRING all stays", x, "1 2 3 1 1 0 0 5 43 2");
        x.walk(1, 0);
        CHECK.due("by a WALK-OVER", Scenes.score(x, 1), "0 0 0 0 0 0 0 0 0 2");
        CHECK.due("by a BYE", Scenes.score(Scenes.three(), 0), "0 0 0 0 0 0 0 0 0 2");
    }

    /** "of those that were won, and of the one behind these (0 at first)" */
    private static void gamesAsked() {
        CourtDraws x = Scenes.four(3);
        for (int won = 0; won < 5; won++) {
            for (int side = 0; side < 2; side++) {
                CHECK.due("SET -1", x.games(0, -1, side), -1);
                CHECK.due("the one behind those won", x.games(0, won, side), 0);
                CHECK.due("none behind it", x.games(0, won + 1, side), -1);
            }
            Scenes.games(x, 0, won % 2 == 0 ? "001" : "110");
            CHECK.due("it goes on, SIDE 0", x.games(0, won, 0), won % 2 == 0 ? 2 : 1);
            CHECK.due("it goes on, SIDE 1", x.games(0, won, 1), won % 2 == 0 ? 1 : 2);
            Scenes.games(x, 0, side(won % 2, 4));
            CHECK.due("it is won", x.games(0, won, won % 2), 6);
            CHECK.due("the other's", x.games(0, won, 1 - won % 2), 1);
        }
        CHECK.due("no SIDE -1", x.games(0, 0, -1), -1);
        CHECK.due("no SIDE 2", x.games(0, 0, 2), -1);
        CHECK.due("no MATCH 3", x.games(3, 0, 0), -1);
        CHECK.due("no MATCH -1", x.games(-1, 0, 0), -1);
        CHECK.due("of a DRAW that there is not", x.games(16, 0, 0), -1);
        for (int far : FAR) {
            CHECK.due("SET " + far, x.games(0, far, 0), -1);
            CHECK.due("SIDE " + far, x.games(0, 0, far), -1);
            CHECK.due("MATCH " + far, x.games(far, 0, 0), -1);
        }
        CHECK.due("not known who plays: 0 at first", x.games(2, 0, 1), 0);
        CHECK.due("and no second", x.games(2, 1, 1), -1);
    }

    /** "unless the MATCH is ENDED by POINTS" */
    private static void gamesBehindTheEnd() {
        CourtDraws x = Scenes.four(2);
        Scenes.games(x, 0, set(0, 0) + set(0, 2));
        CHECK.due("the last SET", x.games(0, 1, 1), 2);
        CHECK.due("none behind it", x.games(0, 2, 0), -1);
        CHECK.due("one back", x.back(0), 55);
        CHECK.due("the last SET goes on", x.games(0, 1, 0), 5);
        CHECK.due("none behind that", x.games(0, 2, 0), -1);
        Scenes.games(x, 1, set(1, 0));
        x.retire(1, 1);
        CHECK.due("RETIRED: the SET that was won", x.games(1, 0, 1), 6);
        CHECK.due("RETIRED: the one behind it", x.games(1, 1, 1), 0);
        CHECK.due("RETIRED: no third", x.games(1, 2, 1), -1);
        CourtDraws y = Scenes.three();
        y.walk(1, 0);
        for (int match = 0; match < 2; match++) {
            CHECK.due("a BYE, a WALK-OVER: 0 at first", y.games(match, 0, 0), 0);
            CHECK.due("a BYE, a WALK-OVER: no second", y.games(match, 1, 0), -1);
        }
    }
}
