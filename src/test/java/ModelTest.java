import java.util.Random;

/**
 * All promises: runs of turns by chance (of fixed beginnings, so always the same), each call's answer held against
 * OfficeModel's, with ordinary, edge and wrong inputs. Most runs are longer than the 512 calls that the document
 * promises, for the class makes no difference there and deep states come late.
 */
public final class ModelTest {
    private static final int RUNS = 1500;
    private static final int TURNS = 392;
    private static final Check CHECK = new Check("ModelTest");

    private final Random chance;
    private final CourtDraws x = new CourtDraws();
    private final OfficeModel y = new OfficeModel();
    private final int run;

    private ModelTest(int run) {
        this.run = run;
        this.chance = new Random(77L * run + 5);
    }

    public static void main(String[] args) {
        for (int run = 0; run < RUNS && CHECK.isClean(); run++) {
            new ModelTest(run).go();
        }
        CHECK.finish();
    }

    private int below(int m) {
        return chance.nextInt(m);
    }

    private boolean flip() {
        return chance.nextBoolean();
    }

    /** Mostly from..to; at times just outside, at times far away. */
    private int near(int from, int to) {
        int dice = below(60);
        if (dice == 0) {
            return from - 1;
        }
        if (dice == 1) {
            return to + 1;
        }
        if (dice == 2) {
            return chance.nextInt();
        }
        return from + below(to - from + 1);
    }

    private int drawNumber() {
        return near(0, run % 2 == 0 ? 1 : 3);
    }

    private int size() {
        int dice = below(20);
        return dice == 0 ? below(20) : dice < 9 ? 4 : dice < 16 ? 8 : 16;
    }

    private int match() {
        int d = drawNumber();
        int size = Math.max(4, y.of(d, 0));
        return 16 * d + near(0, size - 2);
    }

    private int player() {
        return near(0, run % 3 == 0 ? 39 : 17);
    }

    private void same(String call, int got, int want) {
        CHECK.due("run " + run + ": " + call, got, want);
    }

    private void go() {
        int kind = run % 6;
        for (int d = 0; d < (run % 2 == 0 ? 2 : 4); d++) {
            setUp(d);
        }
        for (int turn = 0; turn < TURNS && CHECK.isClean(); turn++) {
            int dice = below(100);
            if (kind == 0 && dice < 60 || kind == 1 && dice < 85) {
                playOn(kind == 1);
            } else if (kind == 2 && dice < 60) {
                planDay();
            } else if (kind == 3 && dice < 40) {
                lookAtMatches();
            } else if (kind == 4 && dice < 40) {
                fit();
            } else {
                anything();
            }
        }
    }

    private void setUp(int d) {
        int size = new int[] {4, 8, 16}[below(3)];
        int length = 2 + below(2);
        same("draw", x.draw(d, size, length), y.draw(d, size, length));
        int many = size / 2 + 1 + below(size / 2);
        for (int i = 0; i < many; i++) {
            int player = below(run % 3 == 0 ? 40 : 18);
            int land = below(3);
            same("land", x.land(player, land), y.land(player, land));
            same("enter", x.enter(d, player), y.enter(d, player));
        }
        int seeds = below(5);
        same("seeds", x.seeds(d, seeds), y.seeds(d, seeds));
        int seed = chance.nextInt();
        same("lay", x.lay(d, seed), y.lay(d, seed));
        for (int p = 0; p < size; p++) {
            same("place", x.place(d, p), y.place(d, p));
        }
    }

    private void playOn(boolean isLong) {
        int m = match();
        int favourite = below(2);
        int many = isLong ? 1 + below(40) : 1 + below(6);
        if (isLong && below(6) == 0) {
            many = 120 + below(200);
        }
        for (int i = 0; i < many && CHECK.isClean(); i++) {
            int side = below(10) < 6 ? favourite : 1 - favourite;
            same("point(" + m + ", " + side + ")", x.point(m, side), y.point(m, side));
        }
        lookAt(m);
        if (below(4) == 0) {
            same("back(" + m + ")", x.back(m), y.back(m));
            lookAt(m);
        }
    }

    private void lookAt(int m) {
        for (int what = 0; what < 10; what++) {
            same("score(" + m + ", " + what + ")", x.score(m, what), y.score(m, what));
        }
        for (int k = 0; k < 6; k++) {
            same("games(" + m + ", " + k + ", 0)", x.games(m, k, 0), y.games(m, k, 0));
            same("games(" + m + ", " + k + ", 1)", x.games(m, k, 1), y.games(m, k, 1));
        }
        same("stands(" + m + ")", x.stands(m), y.stands(m));
        same("winner(" + m + ")", x.winner(m), y.winner(m));
    }

    private void planDay() {
        int c = near(0, 5);
        int m = match();
        int dice = below(10);
        if (dice < 5) {
            same("slot(" + c + ", " + m + ")", x.slot(c, m), y.slot(c, m));
        } else if (dice < 6) {
            int minutes = near(1, flip() ? 60 : 1000);
            same("gap(" + c + ", " + minutes + ")", x.gap(c, minutes), y.gap(c, minutes));
        } else if (dice < 7) {
            int k = near(0, 5);
            same("drop(" + c + ", " + k + ")", x.drop(c, k), y.drop(c, k));
        } else {
            finishSome(m);
        }
        lookAtTimes();
    }

    private void lookAtTimes() {
        for (int c = 0; c < 6; c++) {
            for (int k = 0; k < 6; k++) {
                int what = below(2);
                same("time(" + c + ", " + k + ", " + what + ")", x.time(c, k, what), y.time(c, k, what));
            }
        }
    }

    private void finishSome(int m) {
        int side = near(0, 1);
        if (below(3) > 0) {
            same("walk(" + m + ", " + side + ")", x.walk(m, side), y.walk(m, side));
        } else {
            same("point(" + m + ", " + side + ")", x.point(m, side), y.point(m, side));
            same("retire(" + m + ", " + side + ")", x.retire(m, side), y.retire(m, side));
        }
        if (flip()) {
            int minute = near(0, 900);
            same("over(" + m + ", " + minute + ")", x.over(m, minute), y.over(m, minute));
        }
    }

    private void lookAtMatches() {
        finishSome(match());
        int d = drawNumber();
        for (int i = 0; i < 20; i++) {
            int a = player();
            int b = player();
            same("meeting(" + d + ", " + a + ", " + b + ")", x.meeting(d, a, b), y.meeting(d, a, b));
            int k = near(0, 3);
            same("met(" + d + ", " + a + ", " + k + ")", x.met(d, a, k), y.met(d, a, k));
        }
        for (int what = 0; what < 7; what++) {
            same("of(" + d + ", " + what + ")", x.of(d, what), y.of(d, what));
        }
    }

    private void fit() {
        finishSome(match());
        int m = match();
        int worth = near(0, flip() ? 3 : 999);
        same("worth(" + m + ", " + worth + ")", x.worth(m, worth), y.worth(m, worth));
        int minute = near(0, 1000);
        for (int c = -1; c < 7; c++) {
            same("fitted(" + c + ", " + minute + ")", x.fitted(c, minute), y.fitted(c, minute));
        }
        same("why(" + m + ", " + minute + ")", x.why(m, minute), y.why(m, minute));
    }

    private void anything() {
        int dice = below(34);
        if (dice < 12) {
            anyOfDraws(dice);
        } else if (dice < 22) {
            anyOfMatches(dice - 12);
        } else {
            anyOfDay(dice - 22);
        }
    }

    private void anyOfDraws(int dice) {
        int d = drawNumber();
        int a = player();
        int b = player();
        switch (dice) {
            case 0 -> {
                int land = near(0, 9);
                same("land(" + a + ", " + land + ")", x.land(a, land), y.land(a, land));
            }
            case 1 -> {
                if (below(12) == 0) {
                    int size = size();
                    int length = near(2, 3);
                    same("draw(" + d + ", " + size + ")", x.draw(d, size, length), y.draw(d, size, length));
                }
            }
            case 2, 3, 4 -> same("enter(" + d + ", " + a + ")", x.enter(d, a), y.enter(d, a));
            case 5 -> {
                int many = near(0, 4);
                same("seeds(" + d + ", " + many + ")", x.seeds(d, many), y.seeds(d, many));
            }
            case 6, 7 -> {
                int seed = chance.nextInt();
                same("lay(" + d + ", " + seed + ")", x.lay(d, seed), y.lay(d, seed));
            }
            case 8 -> {
                int p = near(0, 15);
                same("place(" + d + ", " + p + ")", x.place(d, p), y.place(d, p));
            }
            case 9 -> {
                int what = near(0, 6);
                same("of(" + d + ", " + what + ")", x.of(d, what), y.of(d, what));
            }
            default -> same("lucky(" + d + ", " + a + ", " + b + ")", x.lucky(d, a, b), y.lucky(d, a, b));
        }
    }

    private void anyOfMatches(int dice) {
        int m = match();
        int side = near(0, 1);
        switch (dice) {
            case 0 -> same("side(" + m + ", " + side + ")", x.side(m, side), y.side(m, side));
            case 1 -> same("point(" + m + ", " + side + ")", x.point(m, side), y.point(m, side));
            case 2 -> same("back(" + m + ")", x.back(m), y.back(m));
            case 3 -> same("walk(" + m + ", " + side + ")", x.walk(m, side), y.walk(m, side));
            case 4 -> same("retire(" + m + ", " + side + ")", x.retire(m, side), y.retire(m, side));
            case 5 -> same("undo(" + m + ")", x.undo(m), y.undo(m));
            case 6 -> {
                int what = near(0, 9);
                same("score(" + m + ", " + what + ")", x.score(m, what), y.score(m, what));
            }
            case 7 -> {
                int k = near(0, 5);
                same("games(" + m + ", " + k + ", " + side + ")", x.games(m, k, side), y.games(m, k, side));
            }
            case 8 -> same("stands(" + m + ")", x.stands(m), y.stands(m));
            default -> same("winner(" + m + ")", x.winner(m), y.winner(m));
        }
    }

    private void anyOfDay(int dice) {
        int c = near(0, 5);
        int k = near(0, 5);
        int m = match();
        int minute = flip() ? near(0, 1500) : near(0, 100000);
        switch (dice) {
            case 0 -> {
                boolean covered = flip();
                boolean lit = flip();
                int worth = near(0, flip() ? 3 : 99);
                same("court(" + c + ")", x.court(c, covered, lit, worth, minute),
                    y.court(c, covered, lit, worth, minute));
            }
            case 1 -> {
                int what = near(0, 3);
                int v = what == 3 ? near(700, 3000) : near(0, flip() ? 200 : 2000);
                same("rule(" + what + ", " + v + ")", x.rule(what, v), y.rule(what, v));
            }
            case 2 -> {
                boolean on = below(4) == 0;
                CHECK.due("run " + run + ": rain", x.rain(on), y.rain(on));
            }
            case 3 -> same("slot(" + c + ", " + m + ")", x.slot(c, m), y.slot(c, m));
            case 4 -> same("gap(" + c + ", " + minute + ")", x.gap(c, minute), y.gap(c, minute));
            case 5 -> same("drop(" + c + ", " + k + ")", x.drop(c, k), y.drop(c, k));
            case 6 -> same("held(" + c + ", " + k + ")", x.held(c, k), y.held(c, k));
            case 7 -> {
                int what = near(0, 1);
                same("time(" + c + ", " + k + ", " + what + ")", x.time(c, k, what), y.time(c, k, what));
            }
            case 8 -> same("over(" + m + ", " + minute + ")", x.over(m, minute), y.over(m, minute));
            case 9 -> same("end(" + m + ")", x.end(m), y.end(m));
            case 10 -> same("why(" + m + ", " + minute + ")", x.why(m, minute), y.why(m, minute));
            default -> same("fitted(" + c + ", " + minute + ")", x.fitted(c, minute), y.fitted(c, minute));
        }
    }
}
