/** Promises 10 to 21: MATCHES, their scores, and who met whom. */
public final class MatchesTest {
    private static final Check CHECK = new Check("MatchesTest");
    private static final int[] NO_MATCHES = {-1, -16, 3, 14, 15, 16, 63, 64, 99, Integer.MIN_VALUE, Integer.MAX_VALUE};

    public static void main(String[] args) {
        promise10Side();
        promise11Point();
        promise11PointsFull();
        promise12Back();
        promise12BackOfEnded();
        promise13Walk();
        promise14Retire();
        promise15Undo();
        promise16Games();
        promise16Ties();
        promise16TieServes();
        promise16EndedAndRefused();
        promise17Games();
        promise18Stands();
        promise19Winner();
        promise20Met();
        promise21Meeting();
        promise21MeetingBehindByes();
        CHECK.finish();
    }

    private static void dueScore(CourtDraws x, int match, String want) {
        CHECK.due("score(" + match + ", 0 to 9)", Scenes.score(x, match), want);
    }

    private static void promise10Side() {
        CourtDraws x = new CourtDraws();
        Scenes.fill(x, 0, 4, 2, 5, 4);
        x.seeds(0, 4);
        CHECK.due("side ahead of laying", x.side(0, 0), -1);
        x = Scenes.four(2);
        CHECK.due("side(0, 0)", x.side(0, 0), 5);
        CHECK.due("side(0, 1)", x.side(0, 1), 8);
        CHECK.due("side(1, 0)", x.side(1, 0), 7);
        CHECK.due("side(1, 1)", x.side(1, 1), 6);
        CHECK.due("not known yet", x.side(2, 0), -1);
        CHECK.due("side(0, 2)", x.side(0, 2), -1);
        CHECK.due("side(0, -1)", x.side(0, -1), -1);
        for (int match : NO_MATCHES) {
            CHECK.due("side(" + match + ", 0)", x.side(match, 0), -1);
        }
        x.walk(1, 1);
        CHECK.due("the second feeder's winner is SIDE 1", x.side(2, 1), 6);
        CHECK.due("the first feeder's isn't known", x.side(2, 0), -1);
        Scenes.fill(x, 1, 4, 2, 0, 4);
        x.seeds(1, 1);
        x.lay(1, 0);
        CHECK.due("PLAYER 0", x.side(16, 0), 0);
        x = Scenes.three();
        CHECK.due("a BYE", x.side(0, 1), -1);
        CHECK.due("the winner of a BYE", x.side(2, 0), 5);
        x = Scenes.eight();
        for (int match = 32; match < 36; match++) {
            x.walk(match, match % 2);
        }
        CHECK.due("side(36, 0)", x.side(36, 0), 10);
        CHECK.due("side(36, 1)", x.side(36, 1), 12);
        CHECK.due("side(37, 0)", x.side(37, 0), 16);
        CHECK.due("side(37, 1)", x.side(37, 1), 11);
        x.walk(36, 1);
        x.walk(37, 0);
        CHECK.due("side(38, 0)", x.side(38, 0), 12);
        CHECK.due("side(38, 1)", x.side(38, 1), 16);
        CHECK.due("a match beyond the last", x.side(39, 0), -1);
    }

    private static void promise11Point() {
        CourtDraws x = Scenes.four(2);
        CHECK.due("a POINT", x.point(0, 0), 0);
        CHECK.due("3 : 0", Scenes.points(x, 0, "00"), 0);
        CHECK.due("a game", x.point(0, 0), 1);
        CHECK.due("3 : 3", Scenes.points(x, 0, "010101"), 0);
        CHECK.due("4 : 3", x.point(0, 1), 0);
        CHECK.due("4 : 4", x.point(0, 0), 0);
        CHECK.due("4 : 5", x.point(0, 1), 0);
        CHECK.due("a game by 2 more", x.point(0, 1), 1);
        CHECK.due("4 : 1 games", Scenes.games(x, 0, "000"), 1);
        CHECK.due("5 : 1 games", Scenes.games(x, 0, "0"), 1);
        CHECK.due("a SET", Scenes.games(x, 0, "0"), 2);
        CHECK.due("5 : 5 games", Scenes.games(x, 0, "0101010101"), 1);
        CHECK.due("6 : 5 games is no SET", Scenes.games(x, 0, "1"), 1);
        CHECK.due("7 : 5 games is one", Scenes.games(x, 0, "1"), 2);
        CHECK.due("the MATCH", Scenes.games(x, 0, "111111"), 3);
        CHECK.due("ENDED", x.point(0, 0), CourtDraws.ENDED);
        CHECK.due("its winner goes on", x.side(2, 0), 8);
        CHECK.due("the other SIDE isn't known", x.point(2, 0), CourtDraws.UNKNOWN);
        CHECK.due("point(0, 2)", x.point(0, 2), CourtDraws.NUMBER);
        CHECK.due("point(1, -1)", x.point(1, -1), CourtDraws.NUMBER);
        for (int match : NO_MATCHES) {
            CHECK.due("point(" + match + ", 0)", x.point(match, 0), CourtDraws.NUMBER);
        }
        CourtDraws y = Scenes.four(3);
        CHECK.due("two SETS of three", Scenes.games(y, 0, "000000000000"), 2);
        CHECK.due("three of three", Scenes.games(y, 0, "000000"), 3);
        y = Scenes.three();
        CHECK.due("of a BYE", y.point(0, 0), CourtDraws.ENDED);
        y.walk(1, 0);
        CHECK.due("ENDED by a WALK-OVER", y.point(1, 0), CourtDraws.ENDED);
        CHECK.due("both SIDES known", y.point(2, 0), 0);
    }

    private static void promise11PointsFull() {
        CourtDraws x = Scenes.four(2);
        CHECK.due("300 POINTS of one game", Scenes.points(x, 0, "01".repeat(150)), 0);
        CHECK.due("full", x.point(0, 0), CourtDraws.FULL);
        dueScore(x, 0, "150 150 0 0 0 0 0 0 300 2");
        CHECK.due("back", x.back(0), 299);
        CHECK.due("room again", x.point(0, 0), 1);
        dueScore(x, 0, "0 0 1 0 0 0 1 1 300 2");
        CHECK.due("full again", x.point(0, 1), CourtDraws.FULL);
        CHECK.due("retire when full", x.retire(0, 1), 1);
        CHECK.due("ENDED is named ahead of FULL", x.point(0, 1), CourtDraws.ENDED);
        x = Scenes.four(2);
        Scenes.points(x, 0, "01".repeat(127) + "00");
        CHECK.due("the 300th ends the MATCH", Scenes.games(x, 0, "00000000000"), 3);
        dueScore(x, 0, "0 0 0 0 2 0 0 6 300 2");
        CHECK.due("other MATCHES have their own", x.score(1, 8), 0);
    }

    private static void promise12Back() {
        CourtDraws x = Scenes.four(2);
        for (int match : NO_MATCHES) {
            CHECK.due("back(" + match + ")", x.back(match), CourtDraws.NUMBER);
        }
        CHECK.due("none to take back", x.back(0), CourtDraws.UNKNOWN);
        CHECK.due("none, SIDES not known", x.back(2), CourtDraws.UNKNOWN);
        Scenes.points(x, 0, "0010");
        CHECK.due("one game", x.score(0, 0), 3);
        Scenes.points(x, 0, "0");
        dueScore(x, 0, "0 0 1 0 0 0 1 1 5 2");
        CHECK.due("back over the end of a game", x.back(0), 4);
        dueScore(x, 0, "3 1 0 0 0 0 0 0 4 2");
        CHECK.due("another way on", x.point(0, 1), 0);
        dueScore(x, 0, "3 2 0 0 0 0 0 0 5 2");
        for (int left = 4; left >= 0; left--) {
            CHECK.due("back", x.back(0), left);
        }
        CHECK.due("none any more", x.back(0), CourtDraws.UNKNOWN);
        CHECK.due("not begun", x.stands(0), 1);
        x = Scenes.three();
        CHECK.due("of a BYE", x.back(0), CourtDraws.ENDED);
        x.point(1, 0);
        x.retire(1, 0);
        CHECK.due("of one RETIRED", x.back(1), CourtDraws.ENDED);
        x = Scenes.three();
        x.walk(1, 0);
        CHECK.due("of a WALK-OVER", x.back(1), CourtDraws.ENDED);
    }

    private static void promise12BackOfEnded() {
        CourtDraws x = Scenes.four(2);
        Scenes.games(x, 0, "000000000000");
        x.over(0, 800);
        x.walk(1, 0);
        x.point(2, 1);
        CHECK.due("the next one has POINTS", x.back(0), CourtDraws.LATER);
        x.retire(2, 1);
        CHECK.due("the next one is ENDED", x.back(0), CourtDraws.LATER);
        CHECK.due("REAL END stays", x.end(0), 800);
        x.undo(2);
        x.back(2);
        x.walk(2, 0);
        CHECK.due("the next one is ENDED without POINTS", x.back(0), CourtDraws.LATER);
        x.undo(2);
        CHECK.due("nothing hangs on it now", x.back(0), 47);
        CHECK.due("not ENDED", x.stands(0), 2);
        CHECK.due("no winner", x.winner(0), -1);
        CHECK.due("REAL END is forgotten", x.end(0), -1);
        CHECK.due("SIDE of the next one isn't known", x.side(2, 0), -1);
        dueScore(x, 0, "3 0 5 0 1 0 1 6 47 2");
        CHECK.due("it ends again", x.point(0, 0), 3);
        CHECK.due("without a REAL END", x.end(0), -1);
        Scenes.games(x, 2, "111111111111");
        CHECK.due("the last MATCH feeds none", x.back(2), 47);
    }

    private static void promise13Walk() {
        CourtDraws x = Scenes.four(2);
        for (int match : NO_MATCHES) {
            CHECK.due("walk(" + match + ", 0)", x.walk(match, 0), CourtDraws.NUMBER);
        }
        CHECK.due("walk(0, 2)", x.walk(0, 2), CourtDraws.NUMBER);
        CHECK.due("walk(0, -1)", x.walk(0, -1), CourtDraws.NUMBER);
        CHECK.due("not known", x.walk(2, 0), CourtDraws.UNKNOWN);
        x.point(0, 0);
        CHECK.due("it has POINTS", x.walk(0, 0), CourtDraws.STATE);
        x.back(0);
        CHECK.due("none any more", x.walk(0, 1), 1);
        CHECK.due("the SIDE told wins", x.winner(0), 1);
        CHECK.due("so it stands", x.stands(0), 4);
        CHECK.due("ENDED", x.walk(0, 0), CourtDraws.ENDED);
        CHECK.due("NUMBER ahead of ENDED", x.walk(0, 2), CourtDraws.NUMBER);
        dueScore(x, 0, "0 0 0 0 0 0 0 0 0 2");
        CHECK.due("SIDE 0, too", x.walk(1, 0), 1);
        CHECK.due("the last one", x.walk(2, 0), 1);
        CHECK.due("who won", x.side(2, x.winner(2)), 8);
        CHECK.due("of a BYE", Scenes.three().walk(0, 0), CourtDraws.ENDED);
    }

    private static void promise14Retire() {
        CourtDraws x = Scenes.four(3);
        for (int match : NO_MATCHES) {
            CHECK.due("retire(" + match + ", 0)", x.retire(match, 0), CourtDraws.NUMBER);
        }
        CHECK.due("retire(0, 2)", x.retire(0, 2), CourtDraws.NUMBER);
        CHECK.due("retire(0, -1)", x.retire(0, -1), CourtDraws.NUMBER);
        CHECK.due("not known", x.retire(2, 0), CourtDraws.UNKNOWN);
        CHECK.due("it has no POINTS", x.retire(0, 0), CourtDraws.STATE);
        Scenes.games(x, 0, "0000001");
        Scenes.points(x, 0, "110");
        CHECK.due("SIDE 0 RETIRES", x.retire(0, 0), 1);
        CHECK.due("the other one wins", x.winner(0), 1);
        CHECK.due("so it stands", x.stands(0), 5);
        dueScore(x, 0, "1 2 0 1 1 0 1 4 31 3");
        CHECK.due("games of the SET that went on", x.games(0, 1, 1), 1);
        CHECK.due("ENDED", x.retire(0, 0), CourtDraws.ENDED);
        CHECK.due("no POINT any more", x.point(0, 0), CourtDraws.ENDED);
        x.point(1, 0);
        CHECK.due("SIDE 1 RETIRES", x.retire(1, 1), 1);
        CHECK.due("SIDE 0 wins", x.side(2, 1), 7);
        CHECK.due("of a BYE", Scenes.three().retire(0, 0), CourtDraws.ENDED);
    }

    private static void promise15Undo() {
        CourtDraws x = Scenes.four(2);
        for (int match : NO_MATCHES) {
            CHECK.due("undo(" + match + ")", x.undo(match), CourtDraws.NUMBER);
        }
        CHECK.due("not ENDED", x.undo(0), CourtDraws.ENDED);
        CHECK.due("not known", x.undo(2), CourtDraws.ENDED);
        CHECK.due("of a BYE", Scenes.three().undo(0), CourtDraws.ENDED);
        Scenes.games(x, 0, "000000000000");
        CHECK.due("ENDED by POINTS", x.undo(0), CourtDraws.ENDED);
        x.walk(1, 1);
        x.over(1, 700);
        x.point(2, 0);
        CHECK.due("the next one has POINTS", x.undo(1), CourtDraws.LATER);
        x.back(2);
        x.walk(2, 1);
        CHECK.due("the next one is ENDED", x.undo(1), CourtDraws.LATER);
        CHECK.due("the last one feeds none", x.undo(2), 1);
        CHECK.due("REAL END still", x.end(1), 700);
        CHECK.due("a WALK-OVER is undone", x.undo(1), 1);
        CHECK.due("not begun", x.stands(1), 1);
        CHECK.due("no REAL END", x.end(1), -1);
        CHECK.due("no winner", x.winner(1), -1);
        CHECK.due("the next one's SIDE", x.side(2, 1), -1);
        Scenes.points(x, 1, "011");
        x.retire(1, 0);
        x.over(1, 701);
        CHECK.due("RETIRING is undone", x.undo(1), 1);
        CHECK.due("it goes on", x.stands(1), 2);
        CHECK.due("no REAL END again", x.end(1), -1);
        dueScore(x, 1, "1 2 0 0 0 0 0 0 3 2");
        CHECK.due("undone already", x.undo(1), CourtDraws.ENDED);
    }

    private static void promise16Games() {
        CourtDraws x = Scenes.four(3);
        dueScore(x, 0, "0 0 0 0 0 0 0 0 0 3");
        Scenes.points(x, 0, "001");
        dueScore(x, 0, "2 1 0 0 0 0 0 0 3 3");
        Scenes.points(x, 0, "11100101");
        dueScore(x, 0, "3 2 0 1 0 0 1 1 11 3");
        Scenes.points(x, 0, "0");
        dueScore(x, 0, "0 0 1 1 0 0 0 1 12 3");
        Scenes.games(x, 0, "1111");
        dueScore(x, 0, "0 0 1 5 0 0 0 3 28 3");
        Scenes.games(x, 0, "1");
        dueScore(x, 0, "0 0 0 0 0 1 1 4 32 3");
        Scenes.games(x, 0, "0");
        dueScore(x, 0, "0 0 1 0 0 1 0 5 36 3");
        Scenes.games(x, 0, "00000");
        dueScore(x, 0, "0 0 0 0 1 1 1 7 56 3");
        Scenes.games(x, 0, "1");
        dueScore(x, 0, "0 0 0 1 1 1 0 8 60 3");
    }

    private static void promise16Ties() {
        CourtDraws x = Scenes.four(2);
        Scenes.games(x, 0, "010101010101");
        dueScore(x, 0, "0 0 6 6 0 0 0 6 48 2");
        CHECK.due("4 : 0 is no game of a TIE", Scenes.points(x, 0, "0000"), 0);
        Scenes.points(x, 0, "0");
        dueScore(x, 0, "5 0 6 6 0 0 1 6 53 2");
        Scenes.points(x, 0, "0");
        dueScore(x, 0, "6 0 6 6 0 0 1 7 54 2");
        CHECK.due("7 : 0 wins the SET", x.point(0, 0), 2);
        dueScore(x, 0, "0 0 0 0 1 0 1 8 55 2");
        CHECK.due("a TIE counts as a game", x.games(0, 0, 0), 7);
        CHECK.due("games of the other", x.games(0, 0, 1), 6);

        x = Scenes.four(2);
        Scenes.games(x, 0, "010101010101");
        Scenes.points(x, 0, "01010101010");
        dueScore(x, 0, "6 5 6 6 0 0 0 7 59 2");
        CHECK.due("7 : 5, by its twelfth POINT", x.point(0, 0), 2);
        dueScore(x, 0, "0 0 0 0 1 0 1 8 60 2");
        x.back(0);
        CHECK.due("6 : 6", x.point(0, 1), 0);
        dueScore(x, 0, "6 6 6 6 0 0 0 8 60 2");
        CHECK.due("7 : 6", x.point(0, 0), 0);
        CHECK.due("7 : 7", x.point(0, 1), 0);
        CHECK.due("8 : 7", x.point(0, 0), 0);
        CHECK.due("9 : 7", x.point(0, 0), 2);
        dueScore(x, 0, "0 0 0 0 1 0 1 9 64 2");
    }

    private static void promise16TieServes() {
        CourtDraws x = Scenes.four(2);
        Scenes.games(x, 0, "010101010101");
        String even = "";
        for (int i = 0; i < 11; i++) {
            even += x.score(0, 6);
            x.point(0, i % 2);
        }
        CHECK.due("who SERVES in a TIE of SIDE 0's turn", even, "01100110011");
        x = Scenes.four(2);
        Scenes.games(x, 0, "1111110");
        CHECK.due("the SET was won with the sixth", x.score(0, 5), 1);
        Scenes.games(x, 0, "10101010101");
        dueScore(x, 0, "0 0 6 6 0 1 0 9 72 2");
        x = Scenes.four(2);
        Scenes.games(x, 0, "0111111");
        Scenes.games(x, 0, "010101010101");
        dueScore(x, 0, "0 0 6 6 0 1 1 10 76 2");
        String odd = "";
        for (int i = 0; i < 11; i++) {
            odd += x.score(0, 6);
            x.point(0, i % 2);
        }
        CHECK.due("who SERVES in a TIE of SIDE 1's turn", odd, "10011001100");
        CHECK.due("the TIE is won", x.point(0, 0), 2);
        CHECK.due("the other SIDE's turn behind it", x.score(0, 6), 0);
    }

    private static void promise16EndedAndRefused() {
        CourtDraws x = Scenes.four(2);
        Scenes.games(x, 0, "0000001000000");
        dueScore(x, 0, "0 0 0 0 2 0 1 7 52 2");
        x.over(0, 700);
        x = Scenes.four(2);
        Scenes.games(x, 0, "000000000000");
        dueScore(x, 0, "0 0 0 0 2 0 0 6 48 2");
        CHECK.due("score(0, 10)", x.score(0, 10), -1);
        CHECK.due("score(0, -1)", x.score(0, -1), -1);
        for (int match : NO_MATCHES) {
            CHECK.due("score(" + match + ", 9)", x.score(match, 9), -1);
        }
        dueScore(x, 2, "0 0 0 0 0 0 0 0 0 2");
        dueScore(Scenes.three(), 0, "0 0 0 0 0 0 0 0 0 2");
        x.draw(1, 4, 2);
        CHECK.due("of a DRAW that isn't LAID", x.score(16, 9), -1);
    }

    private static void promise17Games() {
        CourtDraws x = Scenes.four(3);
        for (int match : NO_MATCHES) {
            CHECK.due("games(" + match + ", 0, 0)", x.games(match, 0, 0), -1);
        }
        CHECK.due("0 at first", x.games(0, 0, 0), 0);
        CHECK.due("no SET 1 yet", x.games(0, 1, 0), -1);
        CHECK.due("no SET -1", x.games(0, -1, 0), -1);
        CHECK.due("no SIDE 2", x.games(0, 0, 2), -1);
        CHECK.due("no SIDE -1", x.games(0, 0, -1), -1);
        Scenes.games(x, 0, "00100");
        CHECK.due("of the SET that goes on", x.games(0, 0, 0), 4);
        CHECK.due("of the SET that goes on, SIDE 1", x.games(0, 0, 1), 1);
        Scenes.games(x, 0, "00" + "1111011" + "0000000");
        CHECK.due("SET 0", x.games(0, 0, 0), 6);
        CHECK.due("SET 0 of SIDE 1", x.games(0, 0, 1), 1);
        CHECK.due("SET 1", x.games(0, 1, 0), 1);
        CHECK.due("SET 1 of SIDE 1", x.games(0, 1, 1), 6);
        CHECK.due("SET 2", x.games(0, 2, 0), 6);
        CHECK.due("SET 3 goes on", x.games(0, 3, 0), 1);
        CHECK.due("SET 4 is none", x.games(0, 4, 0), -1);
        Scenes.games(x, 0, "11111111" + "0000");
        CHECK.due("SET 3", x.games(0, 3, 1), 6);
        CHECK.due("SET 4 goes on", x.games(0, 4, 0), 4);
        CHECK.due("the MATCH", Scenes.games(x, 0, "00"), 3);
        CHECK.due("SET 4", x.games(0, 4, 0), 6);
        CHECK.due("SET 4 of SIDE 1", x.games(0, 4, 1), 2);
        CHECK.due("SET 5 is none behind the end", x.games(0, 5, 0), -1);
        x.back(0);
        CHECK.due("SET 4 goes on again", x.games(0, 4, 0), 5);
        CHECK.due("far SETS", x.games(0, Integer.MAX_VALUE, 0), -1);
        Scenes.games(x, 1, "000000");
        x.retire(1, 0);
        CHECK.due("behind RETIRING the SET behind is told", x.games(1, 1, 0), 0);
        x = Scenes.four(2);
        Scenes.games(x, 0, "000000000000");
        CHECK.due("of two SETS no third", x.games(0, 2, 0), -1);
        x.walk(1, 0);
        CHECK.due("of a WALK-OVER", x.games(1, 0, 0), 0);
        CHECK.due("of a WALK-OVER no second", x.games(1, 1, 0), -1);
    }

    private static void promise18Stands() {
        CourtDraws x = Scenes.three();
        CHECK.due("of a BYE", x.stands(0), 6);
        CHECK.due("not begun", x.stands(1), 1);
        CHECK.due("not known: one SIDE is", x.stands(2), 0);
        x.point(1, 0);
        CHECK.due("POINTS", x.stands(1), 2);
        x.retire(1, 0);
        CHECK.due("RETIRING", x.stands(1), 5);
        CHECK.due("known now", x.stands(2), 1);
        x.walk(2, 0);
        CHECK.due("WALK-OVER", x.stands(2), 4);
        x = Scenes.four(2);
        CHECK.due("neither SIDE known", x.stands(2), 0);
        Scenes.games(x, 0, "000000000000");
        CHECK.due("by POINTS", x.stands(0), 3);
        for (int match : NO_MATCHES) {
            CHECK.due("stands(" + match + ")", x.stands(match), -1);
        }
        x.draw(0, 4, 2);
        CHECK.due("not LAID", x.stands(0), -1);
    }

    private static void promise19Winner() {
        CourtDraws x = Scenes.three();
        CHECK.due("of a BYE", x.winner(0), 0);
        CHECK.due("not ENDED", x.winner(1), -1);
        Scenes.games(x, 1, "11111111111");
        CHECK.due("goes on", x.winner(1), -1);
        Scenes.games(x, 1, "1");
        CHECK.due("by POINTS", x.winner(1), 1);
        x.point(2, 0);
        x.retire(2, 1);
        CHECK.due("by RETIRING", x.winner(2), 0);
        for (int match : NO_MATCHES) {
            CHECK.due("winner(" + match + ")", x.winner(match), -1);
        }
        CourtDraws y = new CourtDraws();
        Scenes.fill(y, 0, 4, 2, 5, 3);
        y.seeds(0, 3);
        y.lay(0, 3);
        CHECK.due("a BYE on SIDE 0", y.winner(1), 1);
        CHECK.due("its winner", y.side(2, 1), 6);
    }

    private static void promise20Met() {
        CourtDraws x = Scenes.eight();
        CHECK.due("nobody yet", x.met(2, 10, 0), -1);
        x.point(32, 0);
        CHECK.due("a MATCH that goes on", x.met(2, 10, 0), -1);
        x.retire(32, 1);
        CHECK.due("RETIRING counts", x.met(2, 10, 0), 17);
        CHECK.due("for both", x.met(2, 17, 0), 10);
        x.walk(33, 0);
        CHECK.due("a WALK-OVER doesn't count", x.met(2, 15, 0), -1);
        CHECK.due("for neither", x.met(2, 12, 0), -1);
        Scenes.games(x, 36, "111111111111");
        CHECK.due("POINTS count: the second of 10", x.met(2, 10, 1), 15);
        CHECK.due("still the first of 10", x.met(2, 10, 0), 17);
        CHECK.due("the first of 15", x.met(2, 15, 0), 10);
        CHECK.due("no third", x.met(2, 10, 2), -1);
        CHECK.due("i below 0", x.met(2, 10, -1), -1);
        CHECK.due("far i", x.met(2, 10, Integer.MAX_VALUE), -1);
        CHECK.due("no ENTRANT", x.met(2, 30, 0), -1);
        CHECK.due("no PLAYER", x.met(2, -1, 0), -1);
        CHECK.due("no PLAYER 40", x.met(2, 40, 0), -1);
        CHECK.due("no DRAW", x.met(0, 10, 0), -1);
        CHECK.due("no DRAW 4", x.met(4, 10, 0), -1);
        CHECK.due("no DRAW -1", x.met(-1, 10, 0), -1);
        x.back(36);
        CHECK.due("not ENDED any more", x.met(2, 10, 1), -1);
        CourtDraws y = Scenes.three();
        CHECK.due("a BYE is nobody", y.met(0, 5, 0), -1);
        CHECK.due("a BYE met nobody", y.met(0, -1, 0), -1);
        y.point(1, 0);
        y.retire(1, 0);
        y.point(2, 0);
        y.retire(2, 0);
        CHECK.due("the first met is behind the BYE", y.met(0, 5, 0), 6);
    }

    private static void promise21Meeting() {
        CourtDraws x = Scenes.eight();
        CHECK.due("round 0", x.meeting(2, 10, 17), 0);
        CHECK.due("round 0, turned", x.meeting(2, 17, 10), 0);
        CHECK.due("round 1", x.meeting(2, 17, 15), 1);
        CHECK.due("round 1 below", x.meeting(2, 11, 16), 1);
        CHECK.due("round 2", x.meeting(2, 10, 11), 2);
        CHECK.due("round 2 in the middle", x.meeting(2, 12, 16), 2);
        CHECK.due("the same", x.meeting(2, 10, 10), -1);
        CHECK.due("one stands nowhere", x.meeting(2, 10, 30), -1);
        CHECK.due("the other stands nowhere", x.meeting(2, 30, 10), -1);
        CHECK.due("no PLAYER", x.meeting(2, 10, -1), -1);
        CHECK.due("no PLAYER 40", x.meeting(2, 40, 10), -1);
        CHECK.due("no DRAW", x.meeting(0, 10, 11), -1);
        CHECK.due("no DRAW 4", x.meeting(4, 10, 11), -1);
        x.walk(32, 1);
        CHECK.due("they met", x.meeting(2, 10, 17), 0);
        CHECK.due("10 is OUT ahead of round 1", x.meeting(2, 10, 15), -1);
        CHECK.due("10 is OUT ahead of round 2", x.meeting(2, 11, 10), -1);
        CHECK.due("17 goes on", x.meeting(2, 17, 15), 1);
        x.walk(33, 0);
        CHECK.due("12 is OUT", x.meeting(2, 17, 12), -1);
        x.walk(36, 0);
        CHECK.due("15 lost in round 1 to 17", x.meeting(2, 15, 17), 1);
        CHECK.due("15 is OUT ahead of round 2", x.meeting(2, 15, 11), -1);
        CHECK.due("17 would meet 13", x.meeting(2, 13, 17), 2);
        x.undo(36);
        CHECK.due("15 is back", x.meeting(2, 15, 11), 2);
        CourtDraws y = new CourtDraws();
        Scenes.fill(y, 1, 8, 2, 0, 8);
        CHECK.due("not LAID", y.meeting(1, 0, 1), -1);
    }

    private static void promise21MeetingBehindByes() {
        CourtDraws x = Scenes.three();
        CHECK.due("behind a BYE", x.meeting(0, 5, 6), 1);
        CHECK.due("a BYE meets nobody", x.meeting(0, 5, -1), -1);
        x.lucky(0, 5, 20);
        CHECK.due("who gave way stands nowhere", x.meeting(0, 5, 6), -1);
        CHECK.due("the lucky one", x.meeting(0, 20, 6), 1);
        CourtDraws y = new CourtDraws();
        Scenes.fill(y, 3, 16, 2, 0, 16);
        y.seeds(3, 4);
        y.lay(3, 8);
        CHECK.due("SEEDS 1 and 2", y.meeting(3, 0, 1), 3);
        CHECK.due("SEEDS 3 and 4", y.meeting(3, 2, 3), 3);
    }
}
