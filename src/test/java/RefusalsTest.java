import java.util.Random;

/** Ahead of all promises: a refused call changes nothing, a question changes nothing, and no call ever throws. */
public final class RefusalsTest {
    private static final Check CHECK = new Check("RefusalsTest");
    private static final int[] EDGES = {0, 1, -1, 2, 3, 4, 5, 6, 9, 10, 14, 15, 16, 39, 40, 63, 64, 99, 100, 300, 999,
        1000, 1001, 2000, 2001, 100000, 100001, Integer.MAX_VALUE, Integer.MIN_VALUE};
    private static final int CHANGING = 17;

    public static void main(String[] args) {
        for (int run = 0; run < 60; run++) {
            refusalsChangeNothing(new Random(run));
        }
        for (int run = 0; run < 300; run++) {
            nothingThrows(new Random(1000 + run));
        }
        CHECK.finish();
    }

    private static CourtDraws busyOffice(Random chance) {
        CourtDraws x = new CourtDraws();
        for (int d = 0; d < 3; d++) {
            int size = 4 << chance.nextInt(3);
            Scenes.fill(x, d, size, 2 + chance.nextInt(2), 3 * d, size / 2 + 1 + chance.nextInt(size / 2));
            x.seeds(d, chance.nextInt(4));
            if (d < 2) {
                x.lay(d, chance.nextInt());
            }
        }
        return x;
    }

    private static int some(Random chance) {
        return chance.nextInt(4) == 0 ? EDGES[chance.nextInt(EDGES.length)] : chance.nextInt(17);
    }

    private static void refusalsChangeNothing(Random chance) {
        CourtDraws x = busyOffice(chance);
        for (int turn = 0; turn < 200; turn++) {
            String before = Scenes.everything(x);
            CHECK.due("questions change nothing", Scenes.everything(x), before);
            int which = chance.nextInt(CHANGING);
            int a = some(chance);
            int b = some(chance);
            int c = some(chance);
            if (change(x, which, a, b, c) < 0) {
                String call = "refused call " + which + " of " + a + ", " + b + ", " + c;
                CHECK.due(call, Scenes.everything(x), before);
            }
        }
    }

    private static void nothingThrows(Random chance) {
        CourtDraws x = chance.nextInt(3) == 0 ? new CourtDraws() : busyOffice(chance);
        for (int turn = 0; turn < 2000; turn++) {
            int a = some(chance);
            int b = some(chance);
            int c = some(chance);
            if (chance.nextInt(2) == 0) {
                change(x, chance.nextInt(CHANGING), a, b, c);
            } else {
                ask(x, chance.nextInt(16), a, b, c);
            }
        }
        CHECK.due("still there", x.rule(0, -1), CourtDraws.NUMBER);
    }

    private static int change(CourtDraws x, int which, int a, int b, int c) {
        switch (which) {
            case 0:
                return x.land(a, b);
            case 1:
                return x.draw(a, b, c);
            case 2:
                return x.enter(a, b);
            case 3:
                return x.seeds(a, b);
            case 4:
                return x.lay(a, b);
            case 5:
                return x.lucky(a, b, c);
            case 6:
                return x.point(a, b);
            case 7:
                return x.back(a);
            case 8:
                return x.walk(a, b);
            case 9:
                return x.retire(a, b);
            case 10:
                return x.undo(a);
            case 11:
                return x.court(a, b % 2 == 0, b % 3 == 0, b, c);
            case 12:
                return x.rule(a, b);
            case 13:
                return x.slot(a, b);
            case 14:
                return x.gap(a, b);
            case 15:
                return c % 2 == 0 ? x.drop(a, b) : x.over(a, b);
            default:
                return x.worth(a, b);
        }
    }

    private static int ask(CourtDraws x, int which, int a, int b, int c) {
        switch (which) {
            case 0:
                return x.place(a, b);
            case 1:
                return x.of(a, b);
            case 2:
                return x.side(a, b);
            case 3:
                return x.score(a, b);
            case 4:
                return x.games(a, b, c);
            case 5:
                return x.stands(a);
            case 6:
                return x.winner(a);
            case 7:
                return x.met(a, b, c);
            case 8:
                return x.meeting(a, b, c);
            case 9:
                return x.rain(b % 2 == 0) ? 1 : 0;
            case 10:
                return x.held(a, b);
            case 11:
                return x.time(a, b, c);
            case 12:
                return x.end(a);
            case 13:
                return x.why(a, b);
            default:
                return x.fitted(a, b);
        }
    }
}
