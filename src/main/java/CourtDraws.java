/** A referee's office: draws, matches scored point by point, and a day on courts. */
public final class CourtDraws {
    /** A number is none, or none that may be. */
    public static final int NUMBER = -1;
    /** There are as many as may be. */
    public static final int FULL = -2;
    /** It is there already. */
    public static final int TWICE = -3;
    /** A DRAW is LAID, or isn't; a MATCH has POINTS. */
    public static final int STATE = -4;
    /** A MATCH's SIDES aren't both known. */
    public static final int UNKNOWN = -5;
    /** A MATCH is ENDED, or isn't. */
    public static final int ENDED = -6;
    /** What hangs on it goes on already. */
    public static final int LATER = -7;

    private static final int PLAYERS = 40;
    private static final int LANDS = 10;
    private static final int DRAWS = 4;
    private static final int MOST_PLACES = 16;
    private static final int MOST_SEEDS = 4;
    private static final int MOST_ROUNDS = 4;
    private static final int MOST_SETS = 5;
    private static final int MOST_POINTS = 300;
    /** Ten ints have room for the 300 POINTS of a MATCH, a bit each. */
    private static final int POINT_WORDS = 10;
    /** A MATCH is told as 16 times its DRAW and its number; number 15 is never one. */
    private static final int MATCH_CODES = 64;
    private static final int NO_MATCH_NUMBER = 15;
    private static final int COURTS = 6;
    private static final int SLOTS = 6;
    private static final int LAST_MINUTE = 100000;
    private static final int LONGEST_GAP = 1000;
    private static final int GREATEST_RULE = 2000;
    private static final int GREATEST_COURT_WORTH = 99;
    private static final int GREATEST_MATCH_WORTH = 999;

    private static final int REST = 0;
    private static final int FORETOLD_OF_TWO = 1;
    private static final int FORETOLD_OF_THREE = 2;
    private static final int DARK = 3;
    private static final int RULES = 4;

    private static final int BYE = -1;
    /** Nobody yet: a free PLACE, or a SIDE that isn't known. */
    private static final int NOBODY = -2;
    private static final int NONE = -1;
    private static final int NO_SLOT = -2000;
    /** Ahead of every minute that a call can tell. */
    private static final int EVER = -2147483648;

    /** How a MATCH ended, in the numbers that stands() answers. */
    private static final int GOES_ON = 0;
    private static final int BY_POINTS = 3;
    private static final int BY_WALK_OVER = 4;
    private static final int BY_RETIRING = 5;
    private static final int BY_BYE = 6;

    private final Book book;
    private final Laying laying;
    private final Tally tally;
    private final Rests rests;
    private final Plan plan;
    private final Fitting fitting;

    public CourtDraws() {
        book = new Book();
        laying = new Laying();
        tally = new Tally();
        rests = new Rests();
        plan = new Plan();
        fitting = new Fitting();
    }

    // ---- players and draws

    public int land(int player, int land) {
        if (!isPlayer(player) || land < 0 || land >= LANDS) {
            return NUMBER;
        }
        int was = book.lands[player];
        book.lands[player] = land;
        return was;
    }

    public int draw(int d, int size, int length) {
        if (d < 0 || d >= DRAWS || !isSize(size) || !isLength(length)) {
            return NUMBER;
        }
        book.draws[d].renew(size, length);
        return 1;
    }

    public int enter(int d, int player) {
        Draw draw = book.findDraw(d);
        if (draw == null || !isPlayer(player)) {
            return NUMBER;
        }
        if (draw.laid) {
            return STATE;
        }
        if (draw.came[player]) {
            return TWICE;
        }
        if (draw.many >= draw.size) {
            return FULL;
        }
        draw.admit(player);
        return draw.many;
    }

    public int seeds(int d, int many) {
        Draw draw = book.findDraw(d);
        if (draw == null || many < 0 || many > MOST_SEEDS) {
            return NUMBER;
        }
        if (draw.laid) {
            return STATE;
        }
        draw.seeded = many;
        return 1;
    }

    public int lay(int d, int seed) {
        Draw draw = book.findDraw(d);
        if (draw == null) {
            return NUMBER;
        }
        if (draw.laid) {
            return STATE;
        }
        if (draw.many < draw.size / 2 + 1 || draw.many < draw.seeded) {
            return UNKNOWN;
        }
        laying.arrange(draw, book.lands, seed);
        draw.open();
        return draw.size - draw.many;
    }

    public int place(int d, int place) {
        Draw draw = book.findDraw(d);
        if (draw == null || !draw.laid || place < 0 || place >= draw.size) {
            return NOBODY;
        }
        return draw.places[place];
    }

    public int of(int d, int what) {
        Draw draw = book.findDraw(d);
        if (draw == null) {
            return NONE;
        }
        switch (what) {
            case 0:
                return draw.size;
            case 1:
                return draw.length;
            case 2:
                return draw.many;
            case 3:
                return draw.seeded;
            case 4:
                return draw.laid ? 1 : 0;
            case 5:
                return draw.countEnded(0, draw.size - 1);
            case 6:
                return draw.countOpenRounds();
            default:
                return NONE;
        }
    }

    public int lucky(int d, int a, int b) {
        Draw draw = book.findDraw(d);
        if (draw == null || !isPlayer(a) || !isPlayer(b)) {
            return NUMBER;
        }
        if (!draw.laid) {
            return STATE;
        }
        if (draw.came[b]) {
            return TWICE;
        }
        int at = draw.placeOf(a);
        if (at < 0) {
            return UNKNOWN;
        }
        if (draw.hasBegun(a)) {
            return LATER;
        }
        draw.places[at] = b;
        draw.came[b] = true;
        return 1;
    }

    // ---- matches

    public int side(int match, int side) {
        Draw draw = book.laidWith(match);
        if (draw == null || !isSide(side)) {
            return NONE;
        }
        int who = draw.standing(numberOf(match), side);
        return who < 0 ? NONE : who;
    }

    public int point(int match, int side) {
        Draw draw = book.laidWith(match);
        if (draw == null || !isSide(side)) {
            return NUMBER;
        }
        int j = numberOf(match);
        int refusal = refusalToPlay(draw, j);
        if (refusal != 0) {
            return refusal;
        }
        if (draw.points[j] >= MOST_POINTS) {
            return FULL;
        }
        tally.replay(draw, j);
        int told = tally.take(side);
        draw.addPoint(j, side);
        if (told == 3) {
            draw.finish(j, BY_POINTS, side);
        }
        return told;
    }

    public int back(int match) {
        Draw draw = book.laidWith(match);
        if (draw == null) {
            return NUMBER;
        }
        int j = numberOf(match);
        boolean ended = draw.hows[j] != GOES_ON;
        if (ended && draw.hows[j] != BY_POINTS) {
            return ENDED;
        }
        if (draw.points[j] == 0) {
            return UNKNOWN;
        }
        if (ended && draw.nextGoesOn(j)) {
            return LATER;
        }
        if (ended) {
            draw.reopen(j);
        }
        draw.points[j]--;
        return draw.points[j];
    }

    public int walk(int match, int side) {
        Draw draw = book.laidWith(match);
        if (draw == null || !isSide(side)) {
            return NUMBER;
        }
        int j = numberOf(match);
        int refusal = refusalToPlay(draw, j);
        if (refusal != 0) {
            return refusal;
        }
        if (draw.points[j] > 0) {
            return STATE;
        }
        draw.finish(j, BY_WALK_OVER, side);
        return 1;
    }

    public int retire(int match, int side) {
        Draw draw = book.laidWith(match);
        if (draw == null || !isSide(side)) {
            return NUMBER;
        }
        int j = numberOf(match);
        int refusal = refusalToPlay(draw, j);
        if (refusal != 0) {
            return refusal;
        }
        if (draw.points[j] == 0) {
            return STATE;
        }
        draw.finish(j, BY_RETIRING, 1 - side);
        return 1;
    }

    public int undo(int match) {
        Draw draw = book.laidWith(match);
        if (draw == null) {
            return NUMBER;
        }
        int j = numberOf(match);
        if (draw.hows[j] != BY_WALK_OVER && draw.hows[j] != BY_RETIRING) {
            return ENDED;
        }
        if (draw.nextGoesOn(j)) {
            return LATER;
        }
        draw.reopen(j);
        return 1;
    }

    public int score(int match, int what) {
        Draw draw = book.laidWith(match);
        if (draw == null) {
            return NONE;
        }
        tally.replay(draw, numberOf(match));
        switch (what) {
            case 0:
            case 1:
                return tally.points[what];
            case 2:
            case 3:
                return tally.games[what - 2];
            case 4:
            case 5:
                return tally.sets[what - 4];
            case 6:
                return tally.serves();
            case 7:
                return tally.changes;
            case 8:
                return draw.points[numberOf(match)];
            case 9:
                return draw.length;
            default:
                return NONE;
        }
    }

    public int games(int match, int k, int side) {
        Draw draw = book.laidWith(match);
        if (draw == null || !isSide(side)) {
            return NONE;
        }
        int j = numberOf(match);
        tally.replay(draw, j);
        return tally.gamesOfSet(k, side, draw.hows[j] != BY_POINTS);
    }

    public int stands(int match) {
        Draw draw = book.laidWith(match);
        if (draw == null) {
            return NONE;
        }
        int j = numberOf(match);
        if (draw.hows[j] != GOES_ON) {
            return draw.hows[j];
        }
        if (!draw.isKnown(j)) {
            return 0;
        }
        return draw.points[j] == 0 ? 1 : 2;
    }

    public int winner(int match) {
        Draw draw = book.laidWith(match);
        if (draw == null || draw.hows[numberOf(match)] == GOES_ON) {
            return NONE;
        }
        return draw.winners[numberOf(match)];
    }

    public int met(int d, int player, int i) {
        Draw draw = book.findDraw(d);
        if (draw == null || !isPlayer(player) || i < 0) {
            return NONE;
        }
        return draw.opponent(player, i);
    }

    public int meeting(int d, int a, int b) {
        Draw draw = book.findDraw(d);
        if (draw == null || !isPlayer(a) || !isPlayer(b) || a == b) {
            return NONE;
        }
        int first = draw.placeOf(a);
        int second = draw.placeOf(b);
        if (first < 0 || second < 0) {
            return NONE;
        }
        int round = draw.commonRound(first, second);
        if (draw.isOutAhead(a, round) || draw.isOutAhead(b, round)) {
            return NONE;
        }
        return round;
    }

    // ---- the day

    public int court(int c, boolean covered, boolean lit, int worth, int opens) {
        Court court = book.findCourt(c);
        if (court == null || worth < 0 || worth > GREATEST_COURT_WORTH || !isMinute(opens)) {
            return NUMBER;
        }
        court.covered = covered;
        court.lit = lit;
        court.value = worth;
        court.opens = opens;
        return 1;
    }

    public int rule(int what, int v) {
        if (what < 0 || what >= RULES) {
            return NUMBER;
        }
        if (v < 0 || v > (what == DARK ? LAST_MINUTE : GREATEST_RULE)) {
            return NUMBER;
        }
        int was = book.rules[what];
        book.rules[what] = v;
        return was;
    }

    public boolean rain(boolean on) {
        boolean isNew = book.wet != on;
        book.wet = on;
        return isNew;
    }

    public int slot(int c, int match) {
        Court court = book.findCourt(c);
        if (court == null || !isMatchCode(match)) {
            return NUMBER;
        }
        return court.addSlot(match);
    }

    public int gap(int c, int minutes) {
        Court court = book.findCourt(c);
        if (court == null || minutes < 1 || minutes > LONGEST_GAP) {
            return NUMBER;
        }
        return court.addSlot(-minutes);
    }

    public int drop(int c, int k) {
        Court court = book.findCourt(c);
        if (court == null || !court.hasSlot(k)) {
            return NUMBER;
        }
        court.removeSlot(k);
        return court.many;
    }

    public int held(int c, int k) {
        Court court = book.findCourt(c);
        if (court == null || !court.hasSlot(k)) {
            return NO_SLOT;
        }
        return court.slots[k];
    }

    public int time(int c, int k, int what) {
        Court court = book.findCourt(c);
        if (court == null || !court.hasSlot(k) || what < 0 || what > 1) {
            return -2;
        }
        int at = k * COURTS + c;
        plan.foretell(book, at);
        return what == 0 ? plan.begins[at] : plan.ends[at];
    }

    public int over(int match, int minute) {
        Draw draw = book.laidWith(match);
        if (draw == null || !isMinute(minute)) {
            return NUMBER;
        }
        int j = numberOf(match);
        if (draw.hows[j] == GOES_ON) {
            return ENDED;
        }
        draw.realEnds[j] = minute;
        return 1;
    }

    public int end(int match) {
        Draw draw = book.laidWith(match);
        if (draw == null) {
            return NONE;
        }
        return draw.realEnds[numberOf(match)];
    }

    public int why(int match, int minute) {
        rests.gather(book);
        return rests.hindrance(book, match, minute);
    }

    public int worth(int match, int worth) {
        if (!isMatchCode(match) || worth < 0 || worth > GREATEST_MATCH_WORTH) {
            return NUMBER;
        }
        book.values[match] = worth;
        return 1;
    }

    public int fitted(int c, int minute) {
        if (book.findCourt(c) == null) {
            return NONE;
        }
        return fitting.matchFor(book, c, minute);
    }

    // ---- what several calls ask

    private static boolean isPlayer(int player) {
        return player >= 0 && player < PLAYERS;
    }

    private static boolean isSize(int size) {
        return size == 4 || size == 8 || size == 16;
    }

    private static boolean isLength(int length) {
        return length == 2 || length == 3;
    }

    private static boolean isSide(int side) {
        return side == 0 || side == 1;
    }

    private static boolean isMinute(int minute) {
        return minute >= 0 && minute <= LAST_MINUTE;
    }

    private static boolean isMatchCode(int match) {
        return match >= 0 && match < MATCH_CODES && numberOf(match) != NO_MATCH_NUMBER;
    }

    private static int drawOf(int match) {
        return match >> 4;
    }

    private static int numberOf(int match) {
        return match & 15;
    }

    /** The refusals that point, walk and retire share, in the order in which each names them; 0 if none. */
    private static int refusalToPlay(Draw draw, int j) {
        if (draw.hows[j] != GOES_ON) {
            return ENDED;
        }
        return draw.isKnown(j) ? 0 : UNKNOWN;
    }

    /** A DRAW with its MATCHES. Size 0 tells that there is none in this place yet. */
    private static final class Draw {
        final int[] entrants = new int[MOST_PLACES];
        final int[] places = new int[MOST_PLACES];
        /** Who was ever among the ENTRANTS: one who gave way to a lucky one may not come back. */
        final boolean[] came = new boolean[PLAYERS];
        final int[] hows = new int[MOST_PLACES];
        final int[] winners = new int[MOST_PLACES];
        final int[] realEnds = new int[MOST_PLACES];
        final int[] points = new int[MOST_PLACES];
        final int[] pointBits = new int[MOST_PLACES * POINT_WORDS];
        int size;
        int length;
        int many;
        int seeded;
        boolean laid;

        void renew(int newSize, int newLength) {
            size = newSize;
            length = newLength;
            many = 0;
            seeded = 0;
            laid = false;
            for (int player = 0; player < PLAYERS; player++) {
                came[player] = false;
            }
            for (int j = 0; j < MOST_PLACES; j++) {
                places[j] = NOBODY;
                hows[j] = GOES_ON;
                winners[j] = 0;
                realEnds[j] = NONE;
                points[j] = 0;
            }
        }

        void admit(int player) {
            entrants[many] = player;
            came[player] = true;
            many++;
        }

        /** The PLACES are taken: MATCHES of a BYE have ended with that. */
        void open() {
            laid = true;
            for (int j = 0; j < size / 2; j++) {
                if (places[2 * j] == BYE) {
                    finish(j, BY_BYE, 1);
                } else if (places[2 * j + 1] == BYE) {
                    finish(j, BY_BYE, 0);
                }
            }
        }

        boolean hasMatch(int j) {
            return laid && j >= 0 && j < size - 1;
        }

        /** The match that feeds a SIDE, or NONE in round 0. */
        int feeder(int j, int side) {
            return j < size / 2 ? NONE : 2 * (j - size / 2) + side;
        }

        /** The match that j feeds, or NONE behind the last one. */
        int next(int j) {
            int fed = size / 2 + j / 2;
            return fed < size - 1 ? fed : NONE;
        }

        /** The number of the first match of a round. */
        int firstOf(int round) {
            return size - (size >> round);
        }

        /** The PLAYER on a SIDE, BYE or NOBODY: goes down from winner to winner until a PLACE tells it. */
        int standing(int j, int side) {
            if (!hasMatch(j) || !isSide(side)) {
                return NOBODY;
            }
            int from = j;
            int on = side;
            for (int step = 0; step < MOST_ROUNDS && from >= size / 2; step++) {
                from = feeder(from, on);
                if (hows[from] == GOES_ON) {
                    return NOBODY;
                }
                on = winners[from];
            }
            return from < size / 2 ? places[2 * from + on] : NOBODY;
        }

        boolean isKnown(int j) {
            return standing(j, 0) != NOBODY && standing(j, 1) != NOBODY;
        }

        /** The SIDE on which a PLAYER stands, or NONE. */
        int sideOf(int j, int player) {
            if (standing(j, 0) == player) {
                return 0;
            }
            return standing(j, 1) == player ? 1 : NONE;
        }

        /** The PLACE of a PLAYER; NONE, too, if the DRAW isn't LAID. */
        int placeOf(int player) {
            if (!laid) {
                return NONE;
            }
            for (int p = 0; p < size; p++) {
                if (places[p] == player) {
                    return p;
                }
            }
            return NONE;
        }

        void addPoint(int j, int side) {
            int i = points[j];
            int word = j * POINT_WORDS + i / 32;
            int bit = 1 << (i % 32);
            pointBits[word] = side == 1 ? pointBits[word] | bit : pointBits[word] & ~bit;
            points[j]++;
        }

        int pointOf(int j, int i) {
            return (pointBits[j * POINT_WORDS + i / 32] >>> (i % 32)) & 1;
        }

        void finish(int j, int how, int side) {
            hows[j] = how;
            winners[j] = side;
        }

        /** A REAL END can't outlive the end that it was told of. */
        void reopen(int j) {
            hows[j] = GOES_ON;
            realEnds[j] = NONE;
        }

        boolean nextGoesOn(int j) {
            int fed = next(j);
            return fed >= 0 && (points[fed] > 0 || hows[fed] != GOES_ON);
        }

        int countEnded(int from, int to) {
            int ended = 0;
            for (int j = from; j < to; j++) {
                if (hows[j] != GOES_ON) {
                    ended++;
                }
            }
            return ended;
        }

        int countOpenRounds() {
            int open = 0;
            for (int round = 0; round < MOST_ROUNDS && firstOf(round) < size - 1; round++) {
                int from = firstOf(round);
                int to = firstOf(round + 1);
                if (countEnded(from, to) < to - from) {
                    open++;
                }
            }
            return open;
        }

        /** Whether a PLAYER's place can't be given away any more. */
        boolean hasBegun(int player) {
            for (int j = 0; j < size - 1; j++) {
                boolean counts = points[j] > 0 || (hows[j] != GOES_ON && hows[j] != BY_BYE);
                if (counts && sideOf(j, player) >= 0) {
                    return true;
                }
            }
            return false;
        }

        int opponent(int player, int i) {
            int seen = 0;
            for (int j = 0; j < size - 1; j++) {
                boolean played = hows[j] == BY_POINTS || hows[j] == BY_RETIRING;
                int side = played ? sideOf(j, player) : NONE;
                if (side < 0) {
                    continue;
                }
                if (seen == i) {
                    return standing(j, 1 - side);
                }
                seen++;
            }
            return NONE;
        }

        /** The round in which the winners from two PLACES come together. */
        int commonRound(int first, int second) {
            int round = 0;
            while (round < MOST_ROUNDS && (first >> (round + 1)) != (second >> (round + 1))) {
                round++;
            }
            return round;
        }

        boolean isOutAhead(int player, int round) {
            for (int j = 0; j < firstOf(round); j++) {
                if (hows[j] != GOES_ON && standing(j, 1 - winners[j]) == player) {
                    return true;
                }
            }
            return false;
        }
    }

    /** All that is written down: PLAYERS, DRAWS, COURTS and what is laid down for the day. */
    private static final class Book {
        final int[] lands = new int[PLAYERS];
        final Draw[] draws = new Draw[DRAWS];
        final Court[] courts = new Court[COURTS];
        /** REST, FORETOLD of LENGTH 2, of LENGTH 3, DARK: as rule() numbers them. */
        final int[] rules = {60, 90, 150, 1300};
        final int[] values = new int[MATCH_CODES];
        boolean wet;

        Book() {
            for (int d = 0; d < DRAWS; d++) {
                draws[d] = new Draw();
            }
            for (int c = 0; c < COURTS; c++) {
                courts[c] = new Court();
            }
        }

        Draw findDraw(int d) {
            return d < 0 || d >= DRAWS || draws[d].size == 0 ? null : draws[d];
        }

        /** The LAID DRAW that has a MATCH, or null. */
        Draw laidWith(int match) {
            if (match < 0 || match >= MATCH_CODES) {
                return null;
            }
            Draw draw = draws[drawOf(match)];
            return draw.hasMatch(numberOf(match)) ? draw : null;
        }

        Court findCourt(int c) {
            return c < 0 || c >= COURTS ? null : courts[c];
        }

        boolean isRainedOff(Court court) {
            return wet && !court.covered;
        }

        boolean isTooDark(Court court, int minute) {
            return minute > rules[DARK] && !court.lit && !court.covered;
        }

        int foretold(Draw draw) {
            return draw.length == 2 ? rules[FORETOLD_OF_TWO] : rules[FORETOLD_OF_THREE];
        }
    }

    /** Lays a DRAW by the numbers that come from a seed. */
    private static final class Laying {
        private final int[] others = new int[MOST_PLACES];
        private final int[] seedPlaces = new int[MOST_SEEDS];
        private final boolean[] isSeedPlace = new boolean[MOST_PLACES];
        private int x;

        void arrange(Draw draw, int[] lands, int seed) {
            x = seed;
            for (int p = 0; p < MOST_PLACES; p++) {
                draw.places[p] = NOBODY;
                isSeedPlace[p] = false;
            }
            seatSeeds(draw);
            giveByes(draw);
            seatOthers(draw);
            partLands(draw, lands);
        }

        private int numberBelow(int m) {
            x = 1103515245 * x + 12345;
            return m < 1 ? 0 : (x >>> 16) % m;
        }

        private void seatSeeds(Draw draw) {
            int half = draw.size / 2;
            int turned = numberBelow(2);
            seedPlaces[0] = 0;
            seedPlaces[1] = draw.size - 1;
            seedPlaces[2] = half - turned;
            seedPlaces[3] = half - 1 + turned;
            for (int s = 0; s < draw.seeded && s < MOST_SEEDS; s++) {
                draw.places[seedPlaces[s]] = draw.entrants[s];
                isSeedPlace[seedPlaces[s]] = true;
            }
        }

        private void giveByes(Draw draw) {
            int left = draw.size - draw.many;
            for (int s = 0; s < draw.seeded && s < MOST_SEEDS && left > 0; s++) {
                int beside = seedPlaces[s] ^ 1;
                if (draw.places[beside] == NOBODY) {
                    draw.places[beside] = BYE;
                    left--;
                }
            }
            for (int p = 0; p + 1 < draw.size && left > 0; p += 2) {
                if (draw.places[p] == NOBODY && draw.places[p + 1] == NOBODY) {
                    draw.places[p + 1] = BYE;
                    left--;
                }
            }
        }

        private void seatOthers(Draw draw) {
            int count = draw.many - draw.seeded;
            for (int i = 0; i < count; i++) {
                others[i] = draw.entrants[draw.seeded + i];
            }
            for (int k = count - 1; k >= 1; k--) {
                int with = numberBelow(k + 1);
                int kept = others[k];
                others[k] = others[with];
                others[with] = kept;
            }
            int seated = 0;
            for (int p = 0; p < draw.size && seated < count; p++) {
                if (draw.places[p] == NOBODY) {
                    draw.places[p] = others[seated];
                    seated++;
                }
            }
        }

        private void partLands(Draw draw, int[] lands) {
            for (int first = 0; first + 1 < draw.size; first += 2) {
                if (!areOfOneLand(lands, draw.places[first], draw.places[first + 1])) {
                    continue;
                }
                if (!isSeedPlace[first + 1]) {
                    moveAway(draw, lands, first + 1);
                } else if (!isSeedPlace[first]) {
                    moveAway(draw, lands, first);
                }
            }
        }

        private void moveAway(Draw draw, int[] lands, int from) {
            for (int to = (from | 1) + 1; to < draw.size; to++) {
                if (mayChange(draw, lands, from, to)) {
                    int kept = draw.places[from];
                    draw.places[from] = draw.places[to];
                    draw.places[to] = kept;
                    return;
                }
            }
        }

        private boolean mayChange(Draw draw, int[] lands, int from, int to) {
            return draw.places[to] >= 0 && !isSeedPlace[to]
                && !areOfOneLand(lands, draw.places[from ^ 1], draw.places[to])
                && !areOfOneLand(lands, draw.places[to ^ 1], draw.places[from]);
        }

        private static boolean areOfOneLand(int[] lands, int a, int b) {
            return isPlayer(a) && isPlayer(b) && lands[a] == lands[b];
        }
    }

    /** The score of one MATCH, made anew from its POINTS, so that taking one back needs no law of its own. */
    private static final class Tally {
        final int[] points = new int[2];
        final int[] games = new int[2];
        final int[] sets = new int[2];
        /** Two numbers for each SET that was won. */
        private final int[] wonSets = new int[2 * MOST_SETS];
        private int gamesInAll;
        private int length;
        int changes;

        void replay(Draw draw, int j) {
            for (int side = 0; side < 2; side++) {
                points[side] = 0;
                games[side] = 0;
                sets[side] = 0;
            }
            gamesInAll = 0;
            changes = 0;
            length = draw.length;
            for (int i = 0; i < draw.points[j]; i++) {
                take(draw.pointOf(j, i));
            }
        }

        /** A POINT is won: 0; 1 if that ends a game, 2 a SET, 3 the MATCH. */
        int take(int side) {
            boolean tie = isTie();
            points[side]++;
            if (points[side] < (tie ? 7 : 4) || points[side] - points[1 - side] < 2) {
                if (tie && (points[0] + points[1]) % 6 == 0) {
                    changes++;
                }
                return 0;
            }
            points[0] = 0;
            points[1] = 0;
            games[side]++;
            gamesInAll++;
            if ((games[0] + games[1]) % 2 == 1) {
                changes++;
            }
            if (!tie && (games[side] < 6 || games[side] - games[1 - side] < 2)) {
                return 1;
            }
            keepSet();
            sets[side]++;
            return sets[side] >= length ? 3 : 2;
        }

        private void keepSet() {
            int k = setsInAll();
            if (k < MOST_SETS) {
                wonSets[2 * k] = games[0];
                wonSets[2 * k + 1] = games[1];
            }
            games[0] = 0;
            games[1] = 0;
        }

        private boolean isTie() {
            return games[0] == 6 && games[1] == 6;
        }

        private int setsInAll() {
            return sets[0] + sets[1];
        }

        int serves() {
            int turns = gamesInAll;
            if (isTie()) {
                turns += (points[0] + points[1] + 1) / 2;
            }
            return turns % 2;
        }

        int gamesOfSet(int k, int side, boolean goesOn) {
            if (k >= 0 && k < setsInAll() && k < MOST_SETS) {
                return wonSets[2 * k + side];
            }
            return goesOn && k == setsInAll() ? games[side] : NONE;
        }
    }

    /** A COURT. A slot holds a MATCH, or a GAP as that many less than 0. */
    private static final class Court {
        final int[] slots = new int[SLOTS];
        int many;
        boolean covered;
        boolean lit;
        int value;
        int opens = 600;

        boolean hasSlot(int k) {
            return k >= 0 && k < many;
        }

        int addSlot(int what) {
            if (many >= SLOTS) {
                return FULL;
            }
            slots[many] = what;
            many++;
            return many - 1;
        }

        void removeSlot(int k) {
            many--;
            for (int i = k; i < many; i++) {
                slots[i] = slots[i + 1];
            }
        }
    }

    /** When PLAYERS are RESTED: gathered anew for each call that asks, for MATCHES end and open again. */
    private static final class Rests {
        private final int[] latest = new int[PLAYERS];

        void gather(Book book) {
            for (int player = 0; player < PLAYERS; player++) {
                latest[player] = NONE;
            }
            for (int match = 0; match < MATCH_CODES; match++) {
                Draw draw = book.laidWith(match);
                int j = numberOf(match);
                if (draw != null && draw.realEnds[j] >= 0) {
                    note(draw.standing(j, 0), draw.realEnds[j]);
                    note(draw.standing(j, 1), draw.realEnds[j]);
                }
            }
        }

        private void note(int player, int minute) {
            if (isPlayer(player)) {
                latest[player] = Math.max(latest[player], minute);
            }
        }

        /** The first MINUTE at which a PLAYER is RESTED, or EVER. */
        int readyAt(int player, int rest) {
            if (!isPlayer(player) || latest[player] < 0) {
                return EVER;
            }
            return latest[player] + rest;
        }

        /** Why a MATCH may not begin, in the numbers of why(). */
        int hindrance(Book book, int match, int minute) {
            Draw draw = book.laidWith(match);
            if (draw == null) {
                return 1;
            }
            int j = numberOf(match);
            int rest = book.rules[REST];
            if (!draw.isKnown(j)) {
                return 2;
            }
            if (draw.hows[j] != GOES_ON) {
                return 3;
            }
            if (draw.points[j] > 0) {
                return 4;
            }
            if (minute < readyAt(draw.standing(j, 0), rest)) {
                return 5;
            }
            return minute < readyAt(draw.standing(j, 1), rest) ? 6 : 0;
        }
    }

    /** BEGIN and END of SLOTS. Slot k of court c is told as 6 k + c: the order in which they are foretold. */
    private static final class Plan {
        final int[] begins = new int[SLOTS * COURTS];
        final int[] ends = new int[SLOTS * COURTS];
        /** The MATCH of a slot that can be; NONE of others, so that they count nothing. */
        private final int[] matches = new int[SLOTS * COURTS];
        private final int[] firstPlayers = new int[SLOTS * COURTS];
        private final int[] secondPlayers = new int[SLOTS * COURTS];
        private final int[] courtEnds = new int[COURTS];
        private final Rests rests = new Rests();

        /** Foretells the slots up to one; those behind it have no say in it. */
        void foretell(Book book, int last) {
            rests.gather(book);
            for (int c = 0; c < COURTS; c++) {
                courtEnds[c] = book.courts[c].opens;
            }
            for (int at = 0; at <= last && at < SLOTS * COURTS; at++) {
                settle(book, at);
            }
        }

        private void settle(Book book, int at) {
            begins[at] = NONE;
            ends[at] = NONE;
            matches[at] = NONE;
            Court court = book.courts[at % COURTS];
            int k = at / COURTS;
            if (!court.hasSlot(k) || book.isRainedOff(court)) {
                return;
            }
            int what = court.slots[k];
            if (what < 0) {
                int begin = courtEnds[at % COURTS];
                fix(book, at, NONE, begin, begin - what);
                return;
            }
            Draw draw = book.laidWith(what);
            if (draw != null && canStand(draw, what, at)) {
                int begin = earliest(draw, what, at, book.rules[REST]);
                fix(book, at, what, begin, begin + book.foretold(draw));
            }
        }

        private void fix(Book book, int at, int match, int begin, int end) {
            int c = at % COURTS;
            if (book.isTooDark(book.courts[c], end)) {
                return;
            }
            begins[at] = begin;
            ends[at] = end;
            matches[at] = match;
            courtEnds[c] = end;
        }

        private boolean canStand(Draw draw, int match, int at) {
            int j = numberOf(match);
            if (draw.hows[j] != GOES_ON || standsAhead(match, at)) {
                return false;
            }
            for (int side = 0; side < 2; side++) {
                int fedBy = match - j + draw.feeder(j, side);
                if (draw.standing(j, side) == NOBODY && !standsAhead(fedBy, at)) {
                    return false;
                }
            }
            return true;
        }

        private boolean standsAhead(int match, int at) {
            for (int ahead = 0; ahead < at; ahead++) {
                if (matches[ahead] == match) {
                    return true;
                }
            }
            return false;
        }

        private int earliest(Draw draw, int match, int at, int rest) {
            int j = numberOf(match);
            firstPlayers[at] = draw.standing(j, 0);
            secondPlayers[at] = draw.standing(j, 1);
            int begin = courtEnds[at % COURTS];
            begin = Math.max(begin, rests.readyAt(firstPlayers[at], rest));
            begin = Math.max(begin, rests.readyAt(secondPlayers[at], rest));
            for (int ahead = 0; ahead < at; ahead++) {
                if (matches[ahead] >= 0 && (feeds(draw, matches[ahead], match) || sharePlayer(ahead, at))) {
                    begin = Math.max(begin, ends[ahead] + rest);
                }
            }
            return begin;
        }

        private static boolean feeds(Draw draw, int from, int match) {
            return drawOf(from) == drawOf(match) && draw.next(numberOf(from)) == numberOf(match);
        }

        private boolean sharePlayer(int ahead, int at) {
            return plays(ahead, firstPlayers[at]) || plays(ahead, secondPlayers[at]);
        }

        private boolean plays(int at, int player) {
            return isPlayer(player) && (firstPlayers[at] == player || secondPlayers[at] == player);
        }
    }

    /** The worthiest MATCHES to the worthiest COURTS. */
    private static final class Fitting {
        private final boolean[] free = new boolean[MATCH_CODES];
        private final boolean[] busy = new boolean[PLAYERS];
        private final boolean[] taken = new boolean[COURTS];
        private final Rests rests = new Rests();

        int matchFor(Book book, int c, int minute) {
            prepare(book, minute);
            for (int turn = 0; turn < COURTS; turn++) {
                int match = worthiestMatch(book);
                int court = worthiestCourt(book);
                if (match < 0 || court < 0) {
                    return NONE;
                }
                if (court == c) {
                    return match;
                }
                taken[court] = true;
                occupy(book, match);
            }
            return NONE;
        }

        private void prepare(Book book, int minute) {
            rests.gather(book);
            for (int match = 0; match < MATCH_CODES; match++) {
                free[match] = rests.hindrance(book, match, minute) == 0;
            }
            for (int player = 0; player < PLAYERS; player++) {
                busy[player] = false;
            }
            for (int c = 0; c < COURTS; c++) {
                taken[c] = book.isRainedOff(book.courts[c]);
            }
        }

        private int worthiestMatch(Book book) {
            int best = NONE;
            for (int match = 0; match < MATCH_CODES; match++) {
                boolean may = free[match] && !isBusy(book, match, 0) && !isBusy(book, match, 1);
                if (may && (best < 0 || book.values[match] > book.values[best])) {
                    best = match;
                }
            }
            return best;
        }

        private int worthiestCourt(Book book) {
            int best = NONE;
            for (int c = 0; c < COURTS; c++) {
                if (!taken[c] && (best < 0 || book.courts[c].value > book.courts[best].value)) {
                    best = c;
                }
            }
            return best;
        }

        private boolean isBusy(Book book, int match, int side) {
            int player = playerOf(book, match, side);
            return isPlayer(player) && busy[player];
        }

        private void occupy(Book book, int match) {
            for (int side = 0; side < 2; side++) {
                int player = playerOf(book, match, side);
                if (isPlayer(player)) {
                    busy[player] = true;
                }
            }
        }

        private static int playerOf(Book book, int match, int side) {
            Draw draw = book.laidWith(match);
            return draw == null ? NOBODY : draw.standing(numberOf(match), side);
        }
    }
}
