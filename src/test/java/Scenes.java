/** What several tests set up before they ask. */
final class Scenes {
    private Scenes() {
    }

    /** A DRAW with PLAYERS from first on, not LAID yet. */
    static void fill(CourtDraws x, int d, int size, int length, int first, int many) {
        x.draw(d, size, length);
        for (int i = 0; i < many; i++) {
            x.enter(d, first + i);
        }
    }

    static String places(CourtDraws x, int d) {
        StringBuilder told = new StringBuilder();
        for (int p = 0; p < x.of(d, 0); p++) {
            told.append(p == 0 ? "" : " ").append(x.place(d, p));
        }
        return told.toString();
    }

    /** POINTS as a text of '0' and '1'; answers what the last one answered. */
    static int points(CourtDraws x, int match, String sides) {
        int last = -99;
        for (int i = 0; i < sides.length(); i++) {
            last = x.point(match, sides.charAt(i) - '0');
        }
        return last;
    }

    /** Games won to nothing, one for each SIDE told. */
    static int games(CourtDraws x, int match, String sides) {
        int last = -99;
        for (int i = 0; i < sides.length(); i++) {
            last = points(x, match, sides.substring(i, i + 1).repeat(4));
        }
        return last;
    }

    /** All that can be asked of an object, in one text: two objects of one state tell the same. */
    static String everything(CourtDraws x) {
        StringBuilder told = new StringBuilder();
        for (int d = 0; d < 4; d++) {
            tellDraw(told, x, d);
        }
        for (int match = 0; match < 64; match++) {
            tellMatch(told, x, match);
        }
        for (int c = 0; c < 6; c++) {
            for (int k = 0; k < 6; k++) {
                told.append(x.held(c, k)).append(' ').append(x.time(c, k, 0)).append(' ');
                told.append(x.time(c, k, 1)).append(' ');
            }
            told.append("fit ").append(x.fitted(c, 0)).append(' ').append(x.fitted(c, 700)).append('\n');
        }
        return told.toString();
    }

    private static void tellDraw(StringBuilder told, CourtDraws x, int d) {
        told.append("draw ").append(d);
        for (int what = 0; what < 7; what++) {
            told.append(' ').append(x.of(d, what));
        }
        for (int p = 0; p < 16; p++) {
            told.append(' ').append(x.place(d, p));
        }
        for (int a = 0; a < 40; a++) {
            told.append(' ').append(x.met(d, a, 0)).append(' ').append(x.meeting(d, a, (a + 1) % 40));
        }
        told.append('\n');
    }

    private static void tellMatch(StringBuilder told, CourtDraws x, int match) {
        told.append("match ").append(match).append(' ').append(x.stands(match)).append(' ');
        told.append(x.winner(match)).append(' ').append(x.end(match)).append(' ').append(x.why(match, 700));
        told.append(' ').append(x.side(match, 0)).append(' ').append(x.side(match, 1));
        for (int what = 0; what < 10; what++) {
            told.append(' ').append(x.score(match, what));
        }
        for (int k = 0; k < 6; k++) {
            told.append(' ').append(x.games(match, k, 0)).append(':').append(x.games(match, k, 1));
        }
        told.append('\n');
    }
}
