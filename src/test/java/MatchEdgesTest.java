/** Promises 10, 12 to 15 and 18 to 21: each sentence that names a boundary of SIDES, of ends and of meetings. */
public final class MatchEdgesTest {
    private static final Check CHECK = new Check("MatchEdgesTest");
    private static final int[] FAR = {Integer.MIN_VALUE, -1000, 1000, Integer.MAX_VALUE};
    private static final String MATCH_OF_TWO_SETS = "000000000000";

    public static void main(String[] args) {
        sidesOfPairs();
        sidesThatAreNone();
        sidesAsSoonAsEnded();
        walkOfEitherSide();
        retireWithOneAndWithAllPoints();
        backAndUndoWhileNothingHangsOnThem();
        undoLeavesPoints();
        realEndIsForgotten();
        standsInTurn();
        standsOfNone();
        winnerInTurn();
        metRoundByRound();
        metOfNone();
        metNotByWalkOverNorBye();
        meetingOfAllPlaces();
        meetingOfNone();
        meetingOfThoseWhoAreOut();
        CHECK.finish();
    }

    /** DRAW 3 of sixteen, of which all SEEDS stand in their PLACES. */
    private static CourtDraws sixteen() {
        CourtDraws x = new CourtDraws();
        Scenes.fill(x, 3, 16, 2, 0, 16);
        x.seeds(3, 4);
        x.lay(3, 8);
        return x;
    }

    private static void retire(CourtDraws x, int match, int side) {
        x.point(match, side);
        x.retire(match, side);
    }

    /** "a PAIR are PLACES 2 q and 2 q + 1"; "Its SIDES 0 and 1 are who stands on the PLACES of its PAIR" */
    private static void sidesOfPairs() {
        CourtDraws x = sixteen();
        for (int p = 0; p < 16; p++) {
            CHECK.due("PLACE " + p, x.side(48 + p / 2, p % 2), x.place(3, p));
        }
    }

    /** "-1 if that isn't known, a BYE, or there is no such MATCH (of a LAID DRAW), no such SIDE" */
    private static void sidesThatAreNone() {
        CourtDraws x = sixteen();
        for (int match = 56; match < 63; match++) {
            CHECK.due("not known: " + match, x.side(match, 0), -1);
            CHECK.due("not known: " + match, x.side(match, 1), -1);
        }
        CHECK.due("no such SIDE -1", x.side(48, -1), -1);
        CHECK.due("no such SIDE 2", x.side(48, 2), -1);
        CHECK.due("no such MATCH 63", x.side(63, 0), -1);
        CHECK.due("no such MATCH 64", x.side(64, 0), -1);
        CHECK.due("no such MATCH 47", x.side(47, 0), -1);
        CHECK.due("no such MATCH -1", x.side(-1, 0), -1);
        for (int far : FAR) {
            CHECK.due("no such SIDE " + far, x.side(48, far), -1);
            CHECK.due("no such MATCH " + far, x.side(far, 0), -1);
        }
        Scenes.fill(x, 0, 4, 2, 0, 4);
        CHECK.due("of a DRAW that isn't LAID", x.side(0, 0), -1);
        x = Scenes.three();
        CHECK.due("a BYE", x.side(0, 1), -1);
        CHECK.due("beside it", x.side(0, 0), 5);
    }

    /** "or the winners of those that feed it (the first one's is SIDE 0), as soon as these are ENDED" */
    private static void sidesAsSoonAsEnded() {
        CourtDraws x = Scenes.four(2);
        Scenes.games(x, 1, "00000000000");
        Scenes.points(x, 1, "000");
        CHECK.due("not ENDED yet", x.side(2, 1), -1);
        x.point(1, 0);
        CHECK.due("by POINTS", x.side(2, 1), 7);
        CHECK.due("the other isn't", x.side(2, 0), -1);
        x.back(1);
        CHECK.due("taken back", x.side(2, 1), -1);
        x.retire(1, 0);
        CHECK.due("by RETIRING", x.side(2, 1), 6);
        x.undo(1);
        CHECK.due("undone", x.side(2, 1), -1);
        x.walk(0, 1);
        CHECK.due("by a WALK-OVER", x.side(2, 0), 8);
        CHECK.due("the other isn't known", x.side(2, 1), -1);
    }

    /** "A SIDE gets a WALK-OVER: it wins: 1." */
    private static void walkOfEitherSide() {
        for (int side = 0; side < 2; side++) {
            CourtDraws x = Scenes.four(2);
            for (int match = 0; match < 3; match++) {
                CHECK.due("walk", x.walk(match, side), 1);
                CHECK.due("it wins", x.winner(match), side);
                CHECK.due("without POINTS", x.score(match, 8), 0);
            }
        }
    }

    /** "A SIDE RETIRES, the other one wins: 1."; "(its POINTS stay)"; "STATE: it has no POINTS" */
    private static void retireWithOneAndWithAllPoints() {
        for (int side = 0; side < 2; side++) {
            CourtDraws x = Scenes.four(2);
            x.point(0, side);
            CHECK.due("with one POINT", x.retire(0, side), 1);
            CHECK.due("the other one wins", x.winner(0), 1 - side);
            CHECK.due("it stays", x.score(0, side), 1);
            Scenes.points(x, 1, "01".repeat(150));
            CHECK.due("with all that may be", x.retire(1, side), 1);
            CHECK.due("the other one wins, too", x.winner(1), 1 - side);
            CHECK.due("they stay", x.score(1, 8), 300);
        }
    }

    /** "LATER: the MATCH that it feeds has POINTS, or is ENDED": else, and of the last MATCH, it may be. */
    private static void backAndUndoWhileNothingHangsOnThem() {
        CourtDraws x = Scenes.four(2);
        Scenes.games(x, 0, MATCH_OF_TWO_SETS);
        x.walk(1, 0);
        CHECK.due("the next one waits", x.stands(2), 1);
        CHECK.due("back", x.back(0), 47);
        CHECK.due("undo", x.undo(1), 1);
        x.point(0, 0);
        retire(x, 1, 0);
        CHECK.due("it waits again", x.stands(2), 1);
        x.point(2, 0);
        CHECK.due("it goes on", x.undo(1), CourtDraws.LATER);
        CHECK.due("it goes on", x.back(0), CourtDraws.LATER);
        x.back(2);
        CHECK.due("it has no POINTS any more", x.undo(1), 1);
        CHECK.due("nor for this", x.back(0), 47);
        x.point(0, 0);
        x.retire(1, 1);
        x.walk(2, 1);
        CHECK.due("the last one feeds none", x.undo(2), 1);
        Scenes.games(x, 2, MATCH_OF_TWO_SETS);
        CHECK.due("nor by POINTS", x.back(2), 47);
        CourtDraws y = sixteen();
        for (int match = 48; match < 63; match++) {
            y.walk(match, 0);
        }
        for (int match = 48; match < 62; match++) {
            CHECK.due("each feeds one that is ENDED", y.undo(match), CourtDraws.LATER);
        }
        for (int match = 62; match >= 48; match--) {
            CHECK.due("from the last on", y.undo(match), 1);
        }
        CHECK.due("none ENDED", y.of(3, 5), 0);
    }

    /** "A WALK-OVER or RETIRING is undone: the MATCH isn't ENDED any more" */
    private static void undoLeavesPoints() {
        CourtDraws x = Scenes.four(2);
        Scenes.points(x, 0, "0011101");
        String before = Scenes.everything(x);
        x.retire(0, 1);
        CHECK.due("undo", x.undo(0), 1);
        CHECK.due("as ahead of RETIRING", Scenes.everything(x), before);
        x.walk(1, 1);
        CHECK.due("undo", x.undo(1), 1);
        CHECK.due("as ahead of the WALK-OVER", Scenes.everything(x), before);
        CHECK.due("once", x.undo(1), CourtDraws.ENDED);
    }

    /** "(If it was ENDED its REAL END is forgotten.)"; "and has no REAL END" */
    private static void realEndIsForgotten() {
        CourtDraws x = Scenes.four(2);
        Scenes.games(x, 0, MATCH_OF_TWO_SETS);
        x.over(0, 0);
        x.back(0);
        CHECK.due("not ENDED", x.end(0), -1);
        x.point(0, 0);
        CHECK.due("ENDED again", x.end(0), -1);
        x.walk(1, 0);
        x.over(1, 100000);
        x.undo(1);
        CHECK.due("undone", x.end(1), -1);
        retire(x, 1, 0);
        CHECK.due("ENDED again, by RETIRING", x.end(1), -1);
        x.over(1, 5);
        x.undo(1);
        x.walk(1, 0);
        CHECK.due("of RETIRING", x.end(1), -1);
    }

    /** "0 not known who plays, 1 not begun, 2 it has POINTS, 3 ENDED by POINTS, 4 by a WALK-OVER, 5 by RETIRING, 6" */
    private static void standsInTurn() {
        CourtDraws x = Scenes.four(2);
        CHECK.due("neither SIDE known", x.stands(2), 0);
        x.walk(0, 0);
        CHECK.due("SIDE 0 known alone", x.stands(2), 0);
        x.undo(0);
        x.walk(1, 0);
        CHECK.due("SIDE 1 known alone", x.stands(2), 0);
        x.walk(0, 0);
        CHECK.due("both known", x.stands(2), 1);
        x.point(2, 1);
        CHECK.due("one POINT", x.stands(2), 2);
        x.retire(2, 1);
        CHECK.due("RETIRED", x.stands(2), 5);
        x.undo(2);
        CHECK.due("undone", x.stands(2), 2);
        x.back(2);
        CHECK.due("none left", x.stands(2), 1);
        x.walk(2, 1);
        CHECK.due("walked over", x.stands(2), 4);
        x.undo(2);
        Scenes.games(x, 2, "00000000000");
        Scenes.points(x, 2, "000");
        CHECK.due("a POINT ahead of the end", x.stands(2), 2);
        x.point(2, 0);
        CHECK.due("by POINTS", x.stands(2), 3);
        CHECK.due("a BYE", Scenes.three().stands(0), 6);
        CHECK.due("behind a BYE, one SIDE known", Scenes.three().stands(2), 0);
    }

    /** "-1: there is no such MATCH (of a LAID DRAW)" */
    private static void standsOfNone() {
        CourtDraws x = sixteen();
        Scenes.fill(x, 0, 4, 2, 0, 4);
        int[] none = {-1, 0, 2, 15, 16, 47, 63, 64};
        for (int match : none) {
            CHECK.due("stands(" + match + ")", x.stands(match), -1);
            CHECK.due("winner(" + match + ")", x.winner(match), -1);
        }
        for (int far : FAR) {
            CHECK.due("stands(" + far + ")", x.stands(far), -1);
            CHECK.due("winner(" + far + ")", x.winner(far), -1);
        }
        CHECK.due("the first one", x.stands(48), 1);
        CHECK.due("the last one", x.stands(62), 0);
    }

    /** "The winning SIDE of a MATCH; -1: it isn't ENDED" */
    private static void winnerInTurn() {
        CourtDraws x = Scenes.four(2);
        CHECK.due("not begun", x.winner(0), -1);
        CHECK.due("not known", x.winner(2), -1);
        Scenes.games(x, 0, "11111111111");
        CHECK.due("it goes on", x.winner(0), -1);
        Scenes.games(x, 0, "1");
        CHECK.due("by POINTS", x.winner(0), 1);
        x.back(0);
        CHECK.due("taken back", x.winner(0), -1);
        x.retire(0, 1);
        CHECK.due("by RETIRING", x.winner(0), 0);
        x.undo(0);
        CHECK.due("undone", x.winner(0), -1);
        x.walk(1, 1);
        CHECK.due("by a WALK-OVER", x.winner(1), 1);
        CHECK.due("the winner of a BYE on SIDE 1", Scenes.three().winner(0), 0);
    }

    /** "The i-th PLAYER (from 0 on) whom a PLAYER met in ENDED MATCHES of a DRAW ..., round by round" */
    private static void metRoundByRound() {
        CourtDraws x = sixteen();
        int[] others = new int[4];
        int[] path = {48, 56, 60, 62};
        for (int match = 48; match < 63; match++) {
            for (int round = 0; round < 4; round++) {
                if (path[round] == match) {
                    others[round] = x.side(match, 1);
                }
            }
            if (match == 60) {
                Scenes.games(x, match, MATCH_OF_TWO_SETS);
            } else {
                retire(x, match, 1);
            }
        }
        CHECK.due("the first one", x.place(3, 0), 0);
        CHECK.due("i = -1", x.met(3, 0, -1), -1);
        for (int i = 0; i < 4; i++) {
            CHECK.due("i = " + i, x.met(3, 0, i), others[i]);
            CHECK.due("who lost in round " + i, x.met(3, others[i], i), 0);
            CHECK.due("and met no more", x.met(3, others[i], i + 1), -1);
        }
        CHECK.due("i = 4", x.met(3, 0, 4), -1);
        for (int far : FAR) {
            CHECK.due("i = " + far, x.met(3, 0, far), -1);
        }
    }

    /** "-1 if there is none such" */
    private static void metOfNone() {
        CourtDraws x = Scenes.four(2);
        retire(x, 0, 0);
        CHECK.due("it is one", x.met(0, 5, 0), 8);
        CHECK.due("DRAW -1", x.met(-1, 5, 0), -1);
        CHECK.due("DRAW 1, that there is not", x.met(1, 5, 0), -1);
        CHECK.due("DRAW 4", x.met(4, 5, 0), -1);
        CHECK.due("PLAYER -1", x.met(0, -1, 0), -1);
        CHECK.due("PLAYER 40", x.met(0, 40, 0), -1);
        CHECK.due("no ENTRANT", x.met(0, 9, 0), -1);
        CHECK.due("an ENTRANT who met nobody", x.met(0, 6, 0), -1);
        for (int far : FAR) {
            CHECK.due("DRAW " + far, x.met(far, 5, 0), -1);
            CHECK.due("PLAYER " + far, x.met(0, far, 0), -1);
        }
        Scenes.fill(x, 0, 4, 2, 5, 4);
        CHECK.due("not LAID", x.met(0, 5, 0), -1);
        Scenes.fill(x, 1, 4, 2, 0, 4);
        x.seeds(1, 1);
        x.lay(1, 0);
        int other = x.side(16, 1);
        retire(x, 16, 1);
        CHECK.due("PLAYER 0", x.met(1, 0, 0), other);
        CHECK.due("PLAYER 0 was met", x.met(1, other, 0), 0);
    }

    /** "(not WALK-OVERS, not of BYES)" */
    private static void metNotByWalkOverNorBye() {
        CourtDraws x = Scenes.four(2);
        x.walk(0, 0);
        retire(x, 1, 1);
        CHECK.due("a WALK-OVER", x.met(0, 5, 0), -1);
        CHECK.due("for the other", x.met(0, 8, 0), -1);
        retire(x, 2, 0);
        CHECK.due("the first one behind it", x.met(0, 5, 0), 7);
        CHECK.due("and no second", x.met(0, 5, 1), -1);
        CHECK.due("the first of 7", x.met(0, 7, 0), 6);
        CHECK.due("the second of 7", x.met(0, 7, 1), 5);
        x.undo(2);
        CHECK.due("not ENDED any more", x.met(0, 7, 1), -1);
        CourtDraws y = Scenes.three();
        CHECK.due("a BYE", y.met(0, 5, 0), -1);
    }

    /** "In which round two PLAYERS of a LAID DRAW meet, or would, if both won till then" */
    private static void meetingOfAllPlaces() {
        int[] sizes = {4, 8, 16};
        for (int size : sizes) {
            CourtDraws x = new CourtDraws();
            Scenes.fill(x, 1, size, 2, 0, size);
            x.lay(1, 21);
            for (int p = 0; p < size; p++) {
                for (int q = 0; q < size; q++) {
                    int round = -1;
                    for (int block = 2; p != q && round < 0; block *= 2) {
                        round = p / block == q / block ? Integer.numberOfTrailingZeros(block) - 1 : -1;
                    }
                    CHECK.due("PLACES " + p + " and " + q, x.meeting(1, x.place(1, p), x.place(1, q)), round);
                }
            }
        }
    }

    /** "-1: one stands on no PLACE of it, they are the same, ... or it isn't LAID" */
    private static void meetingOfNone() {
        CourtDraws x = sixteen();
        CHECK.due("PLAYERS 0 and 1", x.meeting(3, 0, 1), 3);
        int[] nowhere = {-1, 16, 39, 40, Integer.MIN_VALUE, Integer.MAX_VALUE};
        for (int player : nowhere) {
            CHECK.due("0 and " + player, x.meeting(3, 0, player), -1);
            CHECK.due(player + " and 0", x.meeting(3, player, 0), -1);
            CHECK.due("the same, nowhere", x.meeting(3, player, player), -1);
        }
        CHECK.due("the same", x.meeting(3, 15, 15), -1);
        int[] none = {-1, 0, 2, 4, Integer.MIN_VALUE, Integer.MAX_VALUE};
        for (int d : none) {
            CHECK.due("DRAW " + d, x.meeting(d, 0, 1), -1);
        }
        Scenes.fill(x, 0, 4, 2, 0, 4);
        CHECK.due("not LAID", x.meeting(0, 0, 1), -1);
        CourtDraws y = Scenes.three();
        CHECK.due("behind a BYE", y.meeting(0, 5, 7), 1);
        CHECK.due("a BYE is no PLAYER", y.meeting(0, 5, -1), -1);
        CHECK.due("nor from its SIDE", y.meeting(0, -1, 5), -1);
        CHECK.due("nor are two", y.meeting(0, -1, -1), -1);
    }

    /** "one is OUT of it ahead of that round"; "A PLAYER is OUT of a DRAW if it lost an ENDED MATCH of it." */
    private static void meetingOfThoseWhoAreOut() {
        for (int how = 0; how < 3; how++) {
            CourtDraws x = Scenes.eight();
            end(x, 33, how);
            CHECK.due("15 beat 12: they met", x.meeting(2, 12, 15), 0);
            CHECK.due("12 is OUT ahead of round 1", x.meeting(2, 10, 12), -1);
            CHECK.due("from either SIDE", x.meeting(2, 12, 17), -1);
            CHECK.due("12 is OUT ahead of round 2", x.meeting(2, 12, 11), -1);
            CHECK.due("15 isn't", x.meeting(2, 15, 10), 1);
            end(x, 32, how);
            end(x, 36, how);
            CHECK.due("10 beat 15 in round 1", x.meeting(2, 15, 10), 1);
            CHECK.due("15 is OUT ahead of round 2", x.meeting(2, 15, 16), -1);
            CHECK.due("what was in round 0 stays", x.meeting(2, 15, 12), 0);
            CHECK.due("10 isn't OUT", x.meeting(2, 10, 16), 2);
            end(x, 34, how);
            end(x, 35, how);
            end(x, 37, how);
            end(x, 38, how);
            CHECK.due("10 beat 16 in round 2", x.meeting(2, 16, 10), 2);
            CHECK.due("14 lost to 16 in round 1", x.meeting(2, 14, 16), 1);
            CHECK.due("14 was OUT ahead of round 2", x.meeting(2, 14, 10), -1);
        }
        for (int match = 32; match < 36; match++) {
            for (int side = 0; side < 2; side++) {
                CourtDraws x = Scenes.eight();
                int won = x.side(match, side);
                int lost = x.side(match, 1 - side);
                int other = x.place(2, match < 34 ? 7 : 0);
                x.walk(match, side);
                CHECK.due("who lost " + match + " is OUT", x.meeting(2, lost, other), -1);
                CHECK.due("they met", x.meeting(2, lost, won), 0);
                CHECK.due("who won isn't OUT", x.meeting(2, other, won), 2);
            }
        }
        CourtDraws y = Scenes.eight();
        y.point(33, 0);
        CHECK.due("a MATCH that goes on puts nobody OUT", y.meeting(2, 10, 12), 1);
        y.retire(33, 1);
        CHECK.due("an ENDED one does", y.meeting(2, 10, 12), -1);
        y.undo(33);
        CHECK.due("an undone one doesn't", y.meeting(2, 10, 12), 1);
    }

    /** SIDE 0 wins: by a WALK-OVER, by the other's RETIRING, or by POINTS. */
    private static void end(CourtDraws x, int match, int how) {
        if (how == 0) {
            x.walk(match, 0);
        } else if (how == 1) {
            retire(x, match, 1);
        } else {
            Scenes.games(x, match, MATCH_OF_TWO_SETS);
        }
    }
}
