/** What several tests set up before they ask. */
final class Scenes {
    private Scenes() {
    }

    /** A DRAW with PLAYERS from first on, not LAID yet. */
    static void fill(CourtDraws x, int d, int size, int length, int first, int many) {
        x.draw(d, size, length);
        for (int i = 0; i < many; i++) {
            x.enter(d, first + i);
        }
    }

    /** A DRAW with PLAYERS from first on, so many of them SEEDS, LAID by 0. */
    private static CourtDraws lay(CourtDraws x, int d, int size, int length, int first, int many, int seeds) {
        fill(x, d, size, length, first, many);
        x.seeds(d, seeds);
        x.lay(d, 0);
        return x;
    }

    /** DRAW 0 of four SEEDS: PLACES 5 8 7 6. */
    static CourtDraws four(int length) {
        return lay(new CourtDraws(), 0, 4, length, 5, 4, 4);
    }

    /** DRAW 0 of three SEEDS: PLACES 5 BYE 7 6. */
    static CourtDraws three() {
        return lay(new CourtDraws(), 0, 4, 2, 5, 3, 3);
    }

    /** DRAW 2 of eight: PLACES 10 17 15 12 16 13 14 11. */
    static CourtDraws eight() {
        return lay(new CourtDraws(), 2, 8, 2, 10, 8, 2);
    }

    /** DRAW 0, LENGTH 2: PLACES 5 8 7 6. DRAW 1, LENGTH 3: PLACES 8 11 10 9. PLAYER 8 plays in both. */
    static CourtDraws two() {
        return lay(four(2), 1, 4, 3, 8, 4, 4);
    }

    /** LANDS of PLAYERS from first on. */
    static void lands(CourtDraws x, int first, int... lands) {
        for (int i = 0; i < lands.length; i++) {
            x.land(first + i, lands[i]);
        }
    }

    static String places(CourtDraws x, int d) {
        StringBuilder told = new StringBuilder();
        for (int p = 0; p < x.of(d, 0); p++) {
            told.append(p == 0 ? "" : " ").append(x.place(d, p));
        }
        return told.toString();
    }

    /** POINTS as a text of '0' and '1'; answers what the last one answered. */
    static int points(CourtDraws x, int match, String sides) {
        int last = -99;
        for (int i = 0; i < sides.length(); i++) {
            last = x.point(match, sides.charAt(i) - '0');
        }
        return last;
    }

    /** Games won to nothing, one for each SIDE told. */
    static int games(CourtDraws x, int match, String sides) {
        int last = -99;
        for (int i = 0; i < sides.length(); i++) {
            last = points(x, match, sides.substring(i, i + 1).repeat(4));
        }
        return last;
    }

    /** score(match, 0 to 9). */
    static String score(CourtDraws x, int match) {
        StringBuilder told = new StringBuilder();
        for (int what = 0; what < 10; what++) {
            told.append(what == 0 ? "" : " ").append(x.score(match, what));
        }
        return told.toString();
    }

    /** All that can be asked of an object, in one text: two objects of one state tell the same. */
    static String everything(CourtDraws x) {
        StringBuilder told = new StringBuilder();
        for (int d = 0; d < 4; d++) {
            tellDraw(told, x, d);
        }
        for (int match = 0; match < 64; match++) {
            tellMatch(told, x, match);
        }
        for (int c = 0; c < 6; c++) {
            for (int k = 0; k < 6; k++) {
                told.append(x.held(c, k)).append(' ').append(x.time(c, k, 0)).append(' ');
                told.append(x.time(c, k, 1)).append(' ');
            }
            told.append("fit ").append(x.fitted(c, 0)).append(' ').append(x.fitted(c, 700)).append('\n');
        }
        return told.toString();
    }

    private static void tellDraw(StringBuilder told, CourtDraws x, int d) {
        told.append("draw ").append(d);
        for (int what = 0; what < 7; what++) {
            told.append(' ').append(x.of(d, what));
        }
        for (int p = 0; p < 16; p++) {
            told.append(' ').append(x.place(d, p));
        }
        for (int a = 0; a < 40; a++) {
            told.append(' ').append(x.met(d, a, 0)).append(' ').append(x.meeting(d, a, (a + 1) % 40));
        }
        told.append('\n');
    }

    private static void tellMatch(StringBuilder told, CourtDraws x, int match) {
        told.append("match ").append(match).append(' ').append(x.stands(match)).append(' ');
        told.append(x.winner(match)).append(' ').append(x.end(match)).append(' ').append(x.why(match, 700));
        told.append(' ').append(x.side(match, 0)).append(' ').append(x.side(match, 1));
        told.append(' ').append(score(x, match));
        for (int k = 0; k < 6; k++) {
            told.append(' ').append(x.games(match, k, 0)).append(':').append(x.games(match, k, 1));
        }
        told.append('\n');
    }
}
