import java.util.function.Supplier;
import java.util.function.ToIntFunction;
import java.util.function.UnaryOperator;

/**
 * "A call that is refused (answers below 0, where not told otherwise) changes nothing. Of several refusals that a
 * call names the first one named is answered." For each changing call: each refusal by its own answer, the first
 * values that are not taken on either side, all refusals that can apply together, and the state behind each.
 */
public final class RefusalEdgesTest {
    private static final Check CHECK = new Check("RefusalEdgesTest");
    private static final int LEAST = Integer.MIN_VALUE;
    private static final int MOST = Integer.MAX_VALUE;
    /** DRAW 3 is one that might be, but was never made. */
    private static final int[] NO_DRAWS = {-1, 4, 3, LEAST, MOST};
    private static final int[] NO_PLAYERS = {-1, 40, LEAST, MOST};
    private static final int[] NO_SIDES = {-1, 2, LEAST, MOST};
    private static final int[] NO_COURTS = {-1, 6, LEAST, MOST};
    /** Beyond SIZE 4, number 15, of a DRAW that isn't LAID, of one that was never made, beyond all DRAWS. */
    private static final int[] NO_MATCHES = {-1, 3, 14, 15, 19, 31, 32, 38, 47, 48, 62, 63, 64, LEAST, MOST};
    private static final int[] NO_CODES = {-1, 15, 31, 47, 63, 64, 79, LEAST, MOST};
    private static final String MATCH_OF_TWO_SETS = "000000000000";

    public static void main(String[] args) {
        probeSeesWhatChanges();
        promise2Land();
        promise3Draw();
        promise4Enter();
        promise5Seeds();
        promise6Lay();
        promise9Lucky();
        promise9LuckyLater();
        promise11Point();
        promise12Back();
        promise13Walk();
        promise14Retire();
        promise15Undo();
        promise22Court();
        promise23Rule();
        promises25And26SlotAndGap();
        promise27Drop();
        promise30Over();
        promise33Worth();
        CHECK.finish();
    }

    /**
     * DRAW 0: PLACES 5 8 7 6, MATCH 0 has POINTS. DRAW 1: PLACES 9 BYE 11 10, MATCH 17 walked over. DRAW 2 of SIZE 8:
     * PLAYERS 20 to 24, not LAID. COURT 0 has all its SLOTS, COURT 1 two, the others none.
     */
    private static CourtDraws office() {
        CourtDraws x = new CourtDraws();
        for (int player = 0; player < 40; player++) {
            x.land(player, 1 + player % 9);
        }
        Scenes.fill(x, 0, 4, 2, 5, 4);
        x.seeds(0, 4);
        x.lay(0, 0);
        Scenes.points(x, 0, "0110100");
        Scenes.fill(x, 1, 4, 3, 9, 3);
        x.seeds(1, 3);
        x.lay(1, 0);
        x.walk(17, 1);
        x.over(17, 650);
        Scenes.fill(x, 2, 8, 2, 20, 5);
        x.seeds(2, 2);
        for (int c = 0; c < 6; c++) {
            x.court(c, c % 2 == 0, c % 3 == 0, 10 * c + 5, 500 + c);
        }
        int[] slots = {1, 18, 2, 16, 32, 48};
        for (int match : slots) {
            x.slot(0, match);
        }
        x.gap(1, 30);
        x.slot(1, 0);
        x.worth(1, 6);
        x.worth(2, 7);
        x.worth(3, 8);
        x.worth(33, 400);
        x.rule(0, 45);
        return x;
    }

    private static Refused on(UnaryOperator<CourtDraws> further) {
        Supplier<CourtDraws> scene = () -> further.apply(office());
        return new Refused(CHECK, scene);
    }

    private static Refused onOffice() {
        return on(x -> x);
    }

    /** A probe that were blind to a change would let a refused call make it. */
    private static void probeSeesWhatChanges() {
        CHECK.due("two like objects tell the same", Probe.of(office()), Probe.of(office()));
        seen("land", x -> x.land(39, 0));
        seen("draw in a free place", x -> x.draw(3, 4, 2));
        seen("draw in place of another", x -> x.draw(2, 8, 2));
        seen("enter", x -> x.enter(2, 30));
        seen("seeds", x -> x.seeds(2, 3));
        seen("lay", x -> x.lay(2, 1));
        seen("lucky", x -> x.lucky(0, 6, 30));
        seen("point of SIDE 0", x -> x.point(1, 0));
        seen("another POINT than there was", x -> x.back(0) + x.point(0, 1));
        seen("back", x -> x.back(0));
        seen("walk", x -> x.walk(1, 0));
        seen("retire", x -> x.retire(0, 0));
        seen("undo", x -> x.undo(17));
        seen("COVERED", x -> x.court(3, true, true, 35, 503));
        seen("LIT", x -> x.court(5, false, true, 55, 505));
        seen("WORTH", x -> x.court(3, false, true, 24, 503));
        seen("OPENS", x -> x.court(3, false, true, 35, 504));
        for (int what = 0; what < 4; what++) {
            int of = what;
            seen("rule " + what, x -> x.rule(of, 46));
        }
        seen("rain", x -> x.rain(true) ? 1 : 0);
        seen("slot", x -> x.slot(1, 5));
        seen("gap", x -> x.gap(2, 5));
        seen("drop", x -> x.drop(0, 5));
        seen("over", x -> x.over(17, 651));
        seen("worth", x -> x.worth(49, 1));
        seen("another worth", x -> x.worth(2, 999));
    }

    private static void seen(String change, ToIntFunction<CourtDraws> made) {
        CourtDraws x = office();
        CHECK.due(change + " is no refusal", made.applyAsInt(x) >= 0, true);
        CHECK.due("the probe sees " + change, Probe.of(x).equals(Probe.of(office())), false);
    }

    private static void promise2Land() {
        Refused office = onOffice();
        for (int player : NO_PLAYERS) {
            office.due("land(" + player + ", 0)", CourtDraws.NUMBER, x -> x.land(player, 0));
            office.due("land(" + player + ", 10)", CourtDraws.NUMBER, x -> x.land(player, 10));
        }
        int[] noLands = {-1, 10, LEAST, MOST};
        for (int land : noLands) {
            office.due("land(0, " + land + ")", CourtDraws.NUMBER, x -> x.land(0, land));
            office.due("land(39, " + land + ")", CourtDraws.NUMBER, x -> x.land(39, land));
        }
    }

    private static void promise3Draw() {
        Refused office = onOffice();
        int[] noPlaces = {-1, 4, LEAST, MOST};
        for (int d : noPlaces) {
            office.due("draw(" + d + ", 4, 2)", CourtDraws.NUMBER, x -> x.draw(d, 4, 2));
        }
        int[] noSizes = {-4, 0, 1, 2, 3, 5, 6, 7, 9, 10, 12, 15, 17, 32, LEAST, MOST};
        for (int size : noSizes) {
            office.due("draw(0, " + size + ", 2)", CourtDraws.NUMBER, x -> x.draw(0, size, 2));
        }
        int[] noLengths = {-2, 0, 1, 4, 5, LEAST, MOST};
        for (int length : noLengths) {
            office.due("draw(1, 8, " + length + ")", CourtDraws.NUMBER, x -> x.draw(1, 8, length));
        }
    }

    private static void promise4Enter() {
        Refused office = onOffice();
        for (int d : NO_DRAWS) {
            office.due("enter(" + d + ", 30)", CourtDraws.NUMBER, x -> x.enter(d, 30));
        }
        for (int player : NO_PLAYERS) {
            office.due("enter(2, " + player + ")", CourtDraws.NUMBER, x -> x.enter(2, player));
            office.due("NUMBER ahead of STATE and FULL", CourtDraws.NUMBER, x -> x.enter(0, player));
        }
        office.due("STATE alone", CourtDraws.STATE, x -> x.enter(1, 30));
        office.due("STATE ahead of TWICE", CourtDraws.STATE, x -> x.enter(1, 9));
        office.due("STATE ahead of FULL", CourtDraws.STATE, x -> x.enter(0, 30));
        office.due("STATE ahead of TWICE and FULL", CourtDraws.STATE, x -> x.enter(0, 5));
        office.due("TWICE: the first one", CourtDraws.TWICE, x -> x.enter(2, 20));
        office.due("TWICE: the last one", CourtDraws.TWICE, x -> x.enter(2, 24));
        Refused full = on(x -> {
            Scenes.fill(x, 2, 8, 2, 0, 8);
            return x;
        });
        full.due("FULL alone", CourtDraws.FULL, x -> x.enter(2, 8));
        full.due("TWICE ahead of FULL", CourtDraws.TWICE, x -> x.enter(2, 7));
        full.due("NUMBER ahead of FULL", CourtDraws.NUMBER, x -> x.enter(2, 40));
    }

    private static void promise5Seeds() {
        Refused office = onOffice();
        for (int d : NO_DRAWS) {
            office.due("seeds(" + d + ", 1)", CourtDraws.NUMBER, x -> x.seeds(d, 1));
        }
        int[] noCounts = {-1, 5, LEAST, MOST};
        for (int many : noCounts) {
            office.due("seeds(2, " + many + ")", CourtDraws.NUMBER, x -> x.seeds(2, many));
            office.due("NUMBER ahead of STATE", CourtDraws.NUMBER, x -> x.seeds(0, many));
        }
        office.due("STATE", CourtDraws.STATE, x -> x.seeds(0, 0));
        office.due("STATE, though as many as there are", CourtDraws.STATE, x -> x.seeds(1, 3));
    }

    private static void promise6Lay() {
        Refused office = onOffice();
        for (int d : NO_DRAWS) {
            office.due("lay(" + d + ", 1)", CourtDraws.NUMBER, x -> x.lay(d, 1));
        }
        office.due("STATE", CourtDraws.STATE, x -> x.lay(0, 3));
        office.due("STATE of one with a BYE", CourtDraws.STATE, x -> x.lay(1, 3));
        int[] sizes = {4, 8, 16};
        for (int size : sizes) {
            on(x -> {
                Scenes.fill(x, 2, size, 2, 0, size / 2);
                return x;
            }).due("n / 2 ENTRANTS of " + size, CourtDraws.UNKNOWN, x -> x.lay(2, 1));
            on(x -> {
                x.draw(2, size, 2);
                return x;
            }).due("no ENTRANTS of " + size, CourtDraws.UNKNOWN, x -> x.lay(2, 1));
        }
        on(x -> {
            Scenes.fill(x, 2, 4, 2, 0, 3);
            x.seeds(2, 4);
            return x;
        }).due("enough ENTRANTS, but fewer than SEEDS", CourtDraws.UNKNOWN, x -> x.lay(2, 1));
        on(x -> {
            Scenes.fill(x, 2, 4, 2, 0, 2);
            x.seeds(2, 3);
            return x;
        }).due("too few ENTRANTS, and fewer than SEEDS", CourtDraws.UNKNOWN, x -> x.lay(2, 1));
    }

    private static void promise9Lucky() {
        Refused office = onOffice();
        for (int d : NO_DRAWS) {
            office.due("lucky(" + d + ", 6, 30)", CourtDraws.NUMBER, x -> x.lucky(d, 6, 30));
        }
        for (int player : NO_PLAYERS) {
            office.due("no PLAYER a: " + player, CourtDraws.NUMBER, x -> x.lucky(0, player, 30));
            office.due("no PLAYER b: " + player, CourtDraws.NUMBER, x -> x.lucky(0, 6, player));
            office.due("NUMBER ahead of STATE, a: " + player, CourtDraws.NUMBER, x -> x.lucky(2, player, 30));
            office.due("NUMBER ahead of STATE, b: " + player, CourtDraws.NUMBER, x -> x.lucky(2, 20, player));
            office.due("NUMBER ahead of TWICE: " + player, CourtDraws.NUMBER, x -> x.lucky(0, player, 5));
            office.due("NUMBER ahead of LATER: " + player, CourtDraws.NUMBER, x -> x.lucky(0, 5, player));
        }
        office.due("STATE", CourtDraws.STATE, x -> x.lucky(2, 20, 30));
        office.due("STATE ahead of TWICE", CourtDraws.STATE, x -> x.lucky(2, 20, 21));
        office.due("STATE ahead of UNKNOWN", CourtDraws.STATE, x -> x.lucky(2, 30, 31));
        office.due("TWICE", CourtDraws.TWICE, x -> x.lucky(0, 7, 6));
        office.due("TWICE: b is a", CourtDraws.TWICE, x -> x.lucky(0, 7, 7));
        office.due("TWICE ahead of UNKNOWN", CourtDraws.TWICE, x -> x.lucky(0, 30, 6));
        office.due("TWICE ahead of LATER", CourtDraws.TWICE, x -> x.lucky(0, 5, 7));
        office.due("UNKNOWN", CourtDraws.UNKNOWN, x -> x.lucky(0, 30, 31));
        office.due("UNKNOWN: b is a", CourtDraws.UNKNOWN, x -> x.lucky(0, 30, 30));
        office.due("UNKNOWN: a stands in another DRAW", CourtDraws.UNKNOWN, x -> x.lucky(0, 9, 30));
        on(x -> {
            x.lucky(1, 9, 30);
            x.lucky(1, 30, 31);
            return x;
        }).due("b was, and gave way", CourtDraws.TWICE, x -> x.lucky(1, 31, 9))
            .due("b came so, and went so", CourtDraws.TWICE, x -> x.lucky(1, 31, 30))
            .due("b came so, and is there", CourtDraws.TWICE, x -> x.lucky(1, 31, 31))
            .due("a gave way, and stands nowhere", CourtDraws.UNKNOWN, x -> x.lucky(1, 9, 32))
            .due("a came so, and went so", CourtDraws.UNKNOWN, x -> x.lucky(1, 30, 32))
            .due("a gave way, b was: TWICE first", CourtDraws.TWICE, x -> x.lucky(1, 9, 30));
    }

    private static void promise9LuckyLater() {
        Refused office = onOffice();
        office.due("POINTS, SIDE 0", CourtDraws.LATER, x -> x.lucky(0, 5, 30));
        office.due("POINTS, SIDE 1", CourtDraws.LATER, x -> x.lucky(0, 8, 30));
        office.due("a WALK-OVER, who won", CourtDraws.LATER, x -> x.lucky(1, 10, 30));
        office.due("a WALK-OVER, who lost", CourtDraws.LATER, x -> x.lucky(1, 11, 30));
        on(x -> {
            x.retire(0, 0);
            x.walk(18, 1);
            return x;
        }).due("RETIRED, who won", CourtDraws.LATER, x -> x.lucky(0, 8, 30))
            .due("RETIRED, who lost", CourtDraws.LATER, x -> x.lucky(0, 5, 30))
            .due("behind a BYE, a WALK-OVER", CourtDraws.LATER, x -> x.lucky(1, 9, 30));
        on(x -> {
            Scenes.games(x, 1, MATCH_OF_TWO_SETS);
            x.point(18, 0);
            return x;
        }).due("by POINTS, who won", CourtDraws.LATER, x -> x.lucky(0, 7, 30))
            .due("by POINTS, who lost", CourtDraws.LATER, x -> x.lucky(0, 6, 30))
            .due("behind a BYE, POINTS", CourtDraws.LATER, x -> x.lucky(1, 9, 30));
    }

    private static void promise11Point() {
        Refused office = onOffice();
        for (int match : NO_MATCHES) {
            office.due("point(" + match + ", 0)", CourtDraws.NUMBER, x -> x.point(match, 0));
        }
        for (int side : NO_SIDES) {
            office.due("no SIDE: " + side, CourtDraws.NUMBER, x -> x.point(0, side));
            office.due("NUMBER ahead of ENDED: " + side, CourtDraws.NUMBER, x -> x.point(17, side));
            office.due("NUMBER ahead of UNKNOWN: " + side, CourtDraws.NUMBER, x -> x.point(2, side));
        }
        office.due("ENDED by a BYE", CourtDraws.ENDED, x -> x.point(16, 0));
        office.due("ENDED by a WALK-OVER", CourtDraws.ENDED, x -> x.point(17, 1));
        office.due("UNKNOWN, both SIDES", CourtDraws.UNKNOWN, x -> x.point(2, 0));
        on(x -> {
            x.walk(1, 0);
            return x;
        }).due("UNKNOWN, SIDE 0 alone", CourtDraws.UNKNOWN, x -> x.point(2, 1));
        on(x -> {
            x.retire(0, 1);
            return x;
        }).due("UNKNOWN, SIDE 1 alone", CourtDraws.UNKNOWN, x -> x.point(2, 0))
            .due("ENDED by RETIRING", CourtDraws.ENDED, x -> x.point(0, 0));
        Refused full = on(x -> {
            Scenes.points(x, 1, "01".repeat(150));
            return x;
        });
        full.due("FULL, SIDE 0", CourtDraws.FULL, x -> x.point(1, 0));
        full.due("FULL, SIDE 1", CourtDraws.FULL, x -> x.point(1, 1));
        full.due("NUMBER ahead of FULL", CourtDraws.NUMBER, x -> x.point(1, 2));
        on(x -> {
            Scenes.points(x, 1, "01".repeat(150));
            x.retire(1, 0);
            return x;
        }).due("ENDED ahead of FULL", CourtDraws.ENDED, x -> x.point(1, 0));
        on(x -> {
            Scenes.points(x, 1, "01".repeat(127) + "00");
            Scenes.games(x, 1, "00000000000");
            return x;
        }).due("ENDED by the 300th POINT", CourtDraws.ENDED, x -> x.point(1, 0));
    }

    private static void promise12Back() {
        Refused office = onOffice();
        for (int match : NO_MATCHES) {
            office.due("back(" + match + ")", CourtDraws.NUMBER, x -> x.back(match));
        }
        office.due("ENDED by a BYE, without POINTS", CourtDraws.ENDED, x -> x.back(16));
        office.due("ENDED by a WALK-OVER, without POINTS", CourtDraws.ENDED, x -> x.back(17));
        office.due("it has none", CourtDraws.UNKNOWN, x -> x.back(1));
        office.due("it has none, SIDES not known", CourtDraws.UNKNOWN, x -> x.back(2));
        office.due("it has none, behind a BYE", CourtDraws.UNKNOWN, x -> x.back(18));
        UnaryOperator<CourtDraws> played = x -> {
            x.retire(0, 0);
            Scenes.games(x, 1, MATCH_OF_TWO_SETS);
            x.over(1, 800);
            return x;
        };
        on(played).due("ENDED by RETIRING, with POINTS", CourtDraws.ENDED, x -> x.back(0));
        on(x -> {
            played.apply(x).point(2, 1);
            return x;
        }).due("LATER: the next one has POINTS", CourtDraws.LATER, x -> x.back(1))
            .due("ENDED ahead of LATER", CourtDraws.ENDED, x -> x.back(0));
        on(x -> {
            played.apply(x).walk(2, 1);
            return x;
        }).due("LATER: the next one is ENDED", CourtDraws.LATER, x -> x.back(1));
        on(x -> {
            played.apply(x).point(2, 1);
            x.retire(2, 1);
            return x;
        }).due("LATER: the next one has POINTS and is ENDED", CourtDraws.LATER, x -> x.back(1));
    }

    private static void promise13Walk() {
        Refused office = onOffice();
        for (int match : NO_MATCHES) {
            office.due("walk(" + match + ", 0)", CourtDraws.NUMBER, x -> x.walk(match, 0));
        }
        for (int side : NO_SIDES) {
            office.due("no SIDE: " + side, CourtDraws.NUMBER, x -> x.walk(1, side));
            office.due("NUMBER ahead of ENDED: " + side, CourtDraws.NUMBER, x -> x.walk(17, side));
            office.due("NUMBER ahead of UNKNOWN: " + side, CourtDraws.NUMBER, x -> x.walk(2, side));
            office.due("NUMBER ahead of STATE: " + side, CourtDraws.NUMBER, x -> x.walk(0, side));
        }
        office.due("ENDED by a BYE", CourtDraws.ENDED, x -> x.walk(16, 1));
        office.due("ENDED by a WALK-OVER", CourtDraws.ENDED, x -> x.walk(17, 0));
        office.due("UNKNOWN", CourtDraws.UNKNOWN, x -> x.walk(2, 0));
        office.due("STATE: it has POINTS", CourtDraws.STATE, x -> x.walk(0, 0));
        on(x -> {
            x.point(1, 1);
            return x;
        }).due("STATE: it has one POINT", CourtDraws.STATE, x -> x.walk(1, 0));
        on(x -> {
            x.retire(0, 0);
            Scenes.games(x, 1, MATCH_OF_TWO_SETS);
            return x;
        }).due("ENDED ahead of STATE, RETIRED", CourtDraws.ENDED, x -> x.walk(0, 0))
            .due("ENDED ahead of STATE, by POINTS", CourtDraws.ENDED, x -> x.walk(1, 1));
    }

    private static void promise14Retire() {
        Refused office = onOffice();
        for (int match : NO_MATCHES) {
            office.due("retire(" + match + ", 0)", CourtDraws.NUMBER, x -> x.retire(match, 0));
        }
        for (int side : NO_SIDES) {
            office.due("no SIDE: " + side, CourtDraws.NUMBER, x -> x.retire(0, side));
            office.due("NUMBER ahead of ENDED and STATE: " + side, CourtDraws.NUMBER, x -> x.retire(17, side));
            office.due("NUMBER ahead of UNKNOWN and STATE: " + side, CourtDraws.NUMBER, x -> x.retire(2, side));
            office.due("NUMBER ahead of STATE: " + side, CourtDraws.NUMBER, x -> x.retire(1, side));
        }
        office.due("ENDED ahead of STATE, a BYE", CourtDraws.ENDED, x -> x.retire(16, 0));
        office.due("ENDED ahead of STATE, a WALK-OVER", CourtDraws.ENDED, x -> x.retire(17, 0));
        office.due("UNKNOWN ahead of STATE", CourtDraws.UNKNOWN, x -> x.retire(2, 0));
        office.due("STATE: it has no POINTS", CourtDraws.STATE, x -> x.retire(1, 0));
        on(x -> {
            x.retire(0, 0);
            Scenes.games(x, 1, MATCH_OF_TWO_SETS);
            return x;
        }).due("ENDED, RETIRED", CourtDraws.ENDED, x -> x.retire(0, 1))
            .due("ENDED, by POINTS", CourtDraws.ENDED, x -> x.retire(1, 0));
        on(x -> {
            x.point(1, 0);
            x.back(1);
            return x;
        }).due("STATE: its POINT was taken back", CourtDraws.STATE, x -> x.retire(1, 0));
    }

    private static void promise15Undo() {
        Refused office = onOffice();
        for (int match : NO_MATCHES) {
            office.due("undo(" + match + ")", CourtDraws.NUMBER, x -> x.undo(match));
        }
        office.due("not ENDED, POINTS", CourtDraws.ENDED, x -> x.undo(0));
        office.due("not ENDED, not begun", CourtDraws.ENDED, x -> x.undo(1));
        office.due("not ENDED, not known", CourtDraws.ENDED, x -> x.undo(2));
        office.due("ENDED by a BYE", CourtDraws.ENDED, x -> x.undo(16));
        UnaryOperator<CourtDraws> played = x -> {
            x.retire(0, 0);
            x.over(0, 900);
            Scenes.games(x, 1, MATCH_OF_TWO_SETS);
            return x;
        };
        on(played).due("ENDED by POINTS", CourtDraws.ENDED, x -> x.undo(1));
        on(x -> {
            played.apply(x).point(2, 0);
            x.point(18, 0);
            return x;
        }).due("LATER: the next one of a RETIRED has POINTS", CourtDraws.LATER, x -> x.undo(0))
            .due("LATER: the next one of a WALK-OVER has POINTS", CourtDraws.LATER, x -> x.undo(17))
            .due("ENDED ahead of LATER, by POINTS", CourtDraws.ENDED, x -> x.undo(1))
            .due("ENDED ahead of LATER, a BYE", CourtDraws.ENDED, x -> x.undo(16));
        on(x -> {
            played.apply(x).walk(2, 0);
            x.walk(18, 0);
            return x;
        }).due("LATER: the next one of a RETIRED is ENDED", CourtDraws.LATER, x -> x.undo(0))
            .due("LATER: the next one of a WALK-OVER is ENDED", CourtDraws.LATER, x -> x.undo(17));
    }

    private static void promise22Court() {
        Refused office = onOffice();
        for (int c : NO_COURTS) {
            office.due("court(" + c + ")", CourtDraws.NUMBER, x -> x.court(c, true, true, 50, 700));
        }
        int[] noWorths = {-1, 100, LEAST, MOST};
        for (int worth : noWorths) {
            office.due("worth " + worth, CourtDraws.NUMBER, x -> x.court(3, true, true, worth, 700));
        }
        int[] noMinutes = {-1, 100001, LEAST, MOST};
        for (int opens : noMinutes) {
            office.due("opens " + opens, CourtDraws.NUMBER, x -> x.court(1, true, true, 99, opens));
        }
    }

    private static void promise23Rule() {
        Refused office = onOffice();
        int[] noWhats = {-1, 4, LEAST, MOST};
        for (int what : noWhats) {
            office.due("rule(" + what + ", 5)", CourtDraws.NUMBER, x -> x.rule(what, 5));
        }
        int[] noValues = {-1, 2001, 100000, LEAST, MOST};
        for (int what = 0; what < 3; what++) {
            for (int v : noValues) {
                int of = what;
                office.due("rule(" + what + ", " + v + ")", CourtDraws.NUMBER, x -> x.rule(of, v));
            }
        }
        int[] noDarks = {-1, 100001, LEAST, MOST};
        for (int v : noDarks) {
            office.due("rule(3, " + v + ")", CourtDraws.NUMBER, x -> x.rule(3, v));
        }
    }

    private static void promises25And26SlotAndGap() {
        Refused office = onOffice();
        for (int c : NO_COURTS) {
            office.due("slot(" + c + ", 0)", CourtDraws.NUMBER, x -> x.slot(c, 0));
            office.due("gap(" + c + ", 5)", CourtDraws.NUMBER, x -> x.gap(c, 5));
        }
        for (int match : NO_CODES) {
            office.due("slot(1, " + match + ")", CourtDraws.NUMBER, x -> x.slot(1, match));
            office.due("NUMBER ahead of FULL: slot(0, " + match + ")", CourtDraws.NUMBER, x -> x.slot(0, match));
        }
        int[] noGaps = {0, -1, -1000, 1001, LEAST, MOST};
        for (int minutes : noGaps) {
            office.due("gap(1, " + minutes + ")", CourtDraws.NUMBER, x -> x.gap(1, minutes));
            office.due("NUMBER ahead of FULL: gap(0, " + minutes + ")", CourtDraws.NUMBER, x -> x.gap(0, minutes));
        }
        office.due("FULL: slot", CourtDraws.FULL, x -> x.slot(0, 1));
        office.due("FULL: gap", CourtDraws.FULL, x -> x.gap(0, 1));
    }

    private static void promise27Drop() {
        Refused office = onOffice();
        for (int c : NO_COURTS) {
            office.due("drop(" + c + ", 0)", CourtDraws.NUMBER, x -> x.drop(c, 0));
        }
        int[] noSlots = {-1, 6, LEAST, MOST};
        for (int k : noSlots) {
            office.due("drop(0, " + k + ")", CourtDraws.NUMBER, x -> x.drop(0, k));
        }
        office.due("drop(1, 2), of two SLOTS", CourtDraws.NUMBER, x -> x.drop(1, 2));
        office.due("drop(2, 0), of none", CourtDraws.NUMBER, x -> x.drop(2, 0));
    }

    private static void promise30Over() {
        Refused office = onOffice();
        for (int match : NO_MATCHES) {
            office.due("over(" + match + ", 700)", CourtDraws.NUMBER, x -> x.over(match, 700));
        }
        int[] noMinutes = {-1, 100001, LEAST, MOST};
        for (int minute : noMinutes) {
            office.due("over(17, " + minute + ")", CourtDraws.NUMBER, x -> x.over(17, minute));
            office.due("NUMBER ahead of ENDED: " + minute, CourtDraws.NUMBER, x -> x.over(0, minute));
        }
        office.due("it goes on", CourtDraws.ENDED, x -> x.over(0, 700));
        office.due("not begun", CourtDraws.ENDED, x -> x.over(1, 700));
        office.due("not known", CourtDraws.ENDED, x -> x.over(2, 700));
        on(x -> {
            x.undo(17);
            return x;
        }).due("not ENDED any more", CourtDraws.ENDED, x -> x.over(17, 700));
    }

    private static void promise33Worth() {
        Refused office = onOffice();
        for (int match : NO_CODES) {
            office.due("worth(" + match + ", 5)", CourtDraws.NUMBER, x -> x.worth(match, 5));
        }
        int[] noWorths = {-1, 1000, LEAST, MOST};
        for (int worth : noWorths) {
            office.due("worth(2, " + worth + ")", CourtDraws.NUMBER, x -> x.worth(2, worth));
        }
    }
}
