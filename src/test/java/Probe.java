/**
 * All that an object holds, in one text: what can be asked, and then what only changing calls show (LANDS, rules,
 * who ever came to a DRAW, POINTS one behind the other, COURTS, what MATCHES are worth). The object is spent by it.
 */
final class Probe {
    private static final int LATE = 200000;
    private final CourtDraws x;
    private final StringBuilder told = new StringBuilder();

    private Probe(CourtDraws x) {
        this.x = x;
    }

    static String of(CourtDraws x) {
        return new Probe(x).tell();
    }

    private String tell() {
        told.append(Scenes.everything(x));
        tellComers();
        tellPoints();
        tellRules();
        tellCourts();
        tellWorths();
        return told.toString();
    }

    private Probe add(String what, long answer) {
        told.append(what).append(answer).append(' ');
        return this;
    }

    private void line(String what) {
        told.append('\n').append(what).append(": ");
    }

    /** TWICE comes ahead of what could hide it; each PLAYER is asked for once, lest asking change what is told. */
    private void tellComers() {
        for (int d = 0; d < 4; d++) {
            line("comers of " + d);
            boolean laid = x.of(d, 4) == 1;
            for (int player = 0; player < 40; player++) {
                add("", laid ? x.lucky(d, 39, player) : x.enter(d, player));
            }
            add("lay ", x.lay(d, 11));
            for (int p = 0; p < 16; p++) {
                add("", x.place(d, p));
            }
        }
    }

    /** From the last MATCH down, for what hangs on a MATCH must go ahead of it. */
    private void tellPoints() {
        for (int match = 63; match >= 0; match--) {
            line("points of " + match);
            add("", x.undo(match));
            for (int i = 0; i < 300 && x.back(match) >= 0; i++) {
                add("", x.score(match, 0)).add("", x.score(match, 1)).add("", x.score(match, 7));
            }
        }
    }

    private void tellRules() {
        line("rules");
        add("rain ", x.rain(false) ? 1 : 0);
        for (int what = 0; what < 4; what++) {
            add("", x.rule(what, 0));
        }
        line("lands");
        for (int player = 0; player < 40; player++) {
            add("", x.land(player, 0));
        }
    }

    private void tellCourts() {
        for (int c = 0; c < 6; c++) {
            line("court " + c);
            for (int i = 0; i < 7; i++) {
                add("", x.drop(c, 0));
            }
            x.gap(c, 1);
            x.rule(3, 100000);
            add("begins ", x.time(c, 0, 0));
            x.rule(3, 0);
            add("in the dark ", x.time(c, 0, 0));
            x.rain(true);
            add("in the rain ", x.time(c, 0, 0));
            x.rain(false);
        }
    }

    /** One DRAW at a time: its worthiest MATCH is walked over until none is left. */
    private void tellWorths() {
        for (int d = 0; d < 4; d++) {
            x.draw(d, 4, 2);
        }
        for (int d = 0; d < 4; d++) {
            line("worths of " + d);
            Scenes.fill(x, d, 16, 2, 0, 16);
            x.lay(d, 5);
            for (int c = 0; c < 6; c++) {
                add("court ", x.fitted(c, LATE));
            }
            for (int turn = 0; turn < 15; turn++) {
                add("", walkWorthiest());
            }
            x.draw(d, 4, 2);
        }
    }

    private int walkWorthiest() {
        x.court(0, true, true, 99, 0);
        int best = x.fitted(0, LATE);
        x.walk(best, 0);
        return best;
    }
}
