import java.util.ArrayList;
import java.util.Arrays;
import java.util.Collections;
import java.util.Comparator;
import java.util.HashSet;
import java.util.List;
import java.util.Set;
import java.util.TreeSet;

/**
 * The document once more, written for plainness with the whole Java library and in another shape than the class:
 * rounds of match objects, people looked up anew, scores told as lists. ModelTest holds the two against each other.
 */
final class OfficeModel {
    private static final int NUMBER = -1;
    private static final int FULL = -2;
    private static final int TWICE = -3;
    private static final int STATE = -4;
    private static final int UNKNOWN = -5;
    private static final int ENDED = -6;
    private static final int LATER = -7;
    private static final Integer BYE = -1;

    private enum How { NOT, POINTS, WALK, RETIRE, BYE }

    private static final class Match {
        How how = How.NOT;
        int won = -1;
        Integer realEnd;
        final List<Integer> points = new ArrayList<>();
        Match[] from = new Match[2];
        Integer[] fixed = new Integer[2];
        Match to;
        Draw draw;
        int code;
        int round;

        boolean ended() {
            return how != How.NOT;
        }

        /** A PLAYER, BYE, or null. */
        Integer who(int side) {
            if (from[side] == null) {
                return fixed[side];
            }
            return from[side].ended() ? from[side].who(from[side].won) : null;
        }

        boolean has(int player) {
            return Integer.valueOf(player).equals(who(0)) || Integer.valueOf(player).equals(who(1));
        }

        boolean known() {
            return who(0) != null && who(1) != null;
        }

        Set<Integer> players() {
            Set<Integer> all = new TreeSet<>();
            for (int side = 0; side < 2; side++) {
                if (who(side) != null && !who(side).equals(BYE)) {
                    all.add(who(side));
                }
            }
            return all;
        }
    }

    private static final class Draw {
        int size;
        int length;
        int seeds;
        boolean laid;
        List<Integer> entrants = new ArrayList<>();
        Set<Integer> ever = new HashSet<>();
        Integer[] places;
        List<Match> matches = new ArrayList<>();
        int rounds;
    }

    /** What a row of points comes to. */
    private static final class Score {
        List<int[]> sets = new ArrayList<>();
        int[] won = new int[2];
        int[] games = new int[2];
        int[] points = new int[2];
        int turns;
        int changes;
        int last;
    }

    private static final class Court {
        boolean covered;
        boolean lit;
        int worth;
        int opens = 600;
        List<int[]> slots = new ArrayList<>();
    }

    private static final class Times {
        int begin;
        int end;
        Match match;
    }

    private final int[] lands = new int[40];
    private final Draw[] draws = new Draw[4];
    private final Court[] courts = new Court[6];
    private final int[] rules = {60, 90, 150, 1300};
    private final int[] worths = new int[64];
    private boolean rain;

    OfficeModel() {
        for (int c = 0; c < 6; c++) {
            courts[c] = new Court();
        }
    }

    private static boolean in(int v, int from, int to) {
        return from <= v && v <= to;
    }

    private Draw at(int d) {
        return in(d, 0, 3) ? draws[d] : null;
    }

    private Match match(int code) {
        for (Draw draw : draws) {
            if (draw != null && draw.laid) {
                for (Match m : draw.matches) {
                    if (m.code == code) {
                        return m;
                    }
                }
            }
        }
        return null;
    }

    int land(int player, int land) {
        if (!in(player, 0, 39) || !in(land, 0, 9)) {
            return NUMBER;
        }
        int old = lands[player];
        lands[player] = land;
        return old;
    }

    int draw(int d, int size, int length) {
        if (!in(d, 0, 3) || !List.of(4, 8, 16).contains(size) || !in(length, 2, 3)) {
            return NUMBER;
        }
        Draw draw = new Draw();
        draw.size = size;
        draw.length = length;
        draws[d] = draw;
        List<Match> ahead = new ArrayList<>();
        for (int many = size / 2; many >= 1; many /= 2) {
            List<Match> row = new ArrayList<>();
            for (int j = 0; j < many; j++) {
                Match m = new Match();
                m.draw = draw;
                m.round = draw.rounds;
                m.code = 16 * d + draw.matches.size();
                if (!ahead.isEmpty()) {
                    for (int side = 0; side < 2; side++) {
                        m.from[side] = ahead.get(2 * j + side);
                        m.from[side].to = m;
                    }
                }
                row.add(m);
                draw.matches.add(m);
            }
            ahead = row;
            draw.rounds++;
        }
        return 1;
    }

    int enter(int d, int player) {
        Draw draw = at(d);
        if (draw == null || !in(player, 0, 39)) {
            return NUMBER;
        }
        if (draw.laid) {
            return STATE;
        }
        if (draw.entrants.contains(player)) {
            return TWICE;
        }
        if (draw.entrants.size() == draw.size) {
            return FULL;
        }
        draw.entrants.add(player);
        draw.ever.add(player);
        return draw.entrants.size();
    }

    int seeds(int d, int many) {
        Draw draw = at(d);
        if (draw == null || !in(many, 0, 4)) {
            return NUMBER;
        }
        if (draw.laid) {
            return STATE;
        }
        draw.seeds = many;
        return 1;
    }

    private long state;

    private int number(int below) {
        state = (1103515245L * state + 12345L) & 0xffffffffL;
        return (int) ((state >> 16) % below);
    }

    int lay(int d, int seed) {
        Draw draw = at(d);
        if (draw == null) {
            return NUMBER;
        }
        if (draw.laid) {
            return STATE;
        }
        int n = draw.size;
        if (draw.entrants.size() <= n / 2 || draw.entrants.size() < draw.seeds) {
            return UNKNOWN;
        }
        state = seed & 0xffffffffL;
        Integer[] pl = new Integer[n];
        List<Integer> spots = new ArrayList<>(List.of(0, n - 1, n / 2, n / 2 - 1));
        if (number(2) != 0) {
            Collections.swap(spots, 2, 3);
        }
        Set<Integer> seeded = new HashSet<>();
        for (int s = 0; s < draw.seeds; s++) {
            pl[spots.get(s)] = draw.entrants.get(s);
            seeded.add(draw.entrants.get(s));
        }
        int byes = n - draw.entrants.size();
        for (int s = 0; s < draw.seeds && byes > 0; s++) {
            int spot = spots.get(s);
            int beside = spot % 2 == 0 ? spot + 1 : spot - 1;
            if (pl[beside] == null) {
                pl[beside] = BYE;
                byes--;
            }
        }
        for (int q = 0; q < n / 2 && byes > 0; q++) {
            if (pl[2 * q] == null && pl[2 * q + 1] == null) {
                pl[2 * q + 1] = BYE;
                byes--;
            }
        }
        List<Integer> rest = new ArrayList<>(draw.entrants.subList(draw.seeds, draw.entrants.size()));
        for (int k = rest.size() - 1; k > 0; k--) {
            Collections.swap(rest, k, number(k + 1));
        }
        for (int p = 0; p < n; p++) {
            if (pl[p] == null) {
                pl[p] = rest.remove(0);
            }
        }
        for (int q = 0; q < n / 2; q++) {
            part(pl, q, seeded);
        }
        draw.places = pl;
        draw.laid = true;
        for (int q = 0; q < n / 2; q++) {
            Match m = draw.matches.get(q);
            for (int side = 0; side < 2; side++) {
                m.fixed[side] = pl[2 * q + side];
                if (pl[2 * q + side].equals(BYE)) {
                    m.how = How.BYE;
                    m.won = 1 - side;
                }
            }
        }
        return n - draw.entrants.size();
    }

    private boolean clash(Integer[] pl, int q) {
        Integer a = pl[2 * q];
        Integer b = pl[2 * q + 1];
        return !a.equals(BYE) && !b.equals(BYE) && lands[a] == lands[b];
    }

    private void part(Integer[] pl, int q, Set<Integer> seeded) {
        if (!clash(pl, q)) {
            return;
        }
        int mover = -1;
        if (!seeded.contains(pl[2 * q + 1])) {
            mover = 2 * q + 1;
        } else if (!seeded.contains(pl[2 * q])) {
            mover = 2 * q;
        }
        for (int p = 2 * q + 2; mover >= 0 && p < pl.length; p++) {
            if (pl[p].equals(BYE) || seeded.contains(pl[p])) {
                continue;
            }
            Collections.swap(Arrays.asList(pl), mover, p);
            if (!clash(pl, q) && !clash(pl, p / 2)) {
                return;
            }
            Collections.swap(Arrays.asList(pl), mover, p);
        }
    }

    int place(int d, int place) {
        Draw draw = at(d);
        return draw == null || !draw.laid || !in(place, 0, draw.size - 1) ? -2 : draw.places[place];
    }

    int of(int d, int what) {
        Draw draw = at(d);
        if (draw == null || !in(what, 0, 6)) {
            return -1;
        }
        int ended = 0;
        Set<Integer> open = new HashSet<>();
        for (Match m : draw.matches) {
            if (m.ended()) {
                ended++;
            } else {
                open.add(m.round);
            }
        }
        return new int[] {draw.size, draw.length, draw.entrants.size(), draw.seeds, draw.laid ? 1 : 0, ended,
            open.size()}[what];
    }

    int lucky(int d, int a, int b) {
        Draw draw = at(d);
        if (draw == null || !in(a, 0, 39) || !in(b, 0, 39)) {
            return NUMBER;
        }
        if (!draw.laid) {
            return STATE;
        }
        if (draw.ever.contains(b)) {
            return TWICE;
        }
        int place = Arrays.asList(draw.places).indexOf(a);
        if (place < 0) {
            return UNKNOWN;
        }
        for (Match m : draw.matches) {
            if (m.has(a) && (!m.points.isEmpty() || m.ended() && m.how != How.BYE)) {
                return LATER;
            }
        }
        draw.places[place] = b;
        draw.matches.get(place / 2).fixed[place % 2] = b;
        draw.ever.add(b);
        return 1;
    }

    int side(int code, int side) {
        Match m = match(code);
        if (m == null || !in(side, 0, 1) || m.who(side) == null) {
            return -1;
        }
        return m.who(side);
    }

    private Score count(Match m) {
        Score s = new Score();
        for (int winner : m.points) {
            count(s, winner, m.draw.length);
        }
        return s;
    }

    private static void count(Score s, int w, int length) {
        boolean tie = s.games[0] == 6 && s.games[1] == 6;
        s.points[w]++;
        int sum = s.points[0] + s.points[1];
        int lead = s.points[w] - s.points[1 - w];
        s.last = 0;
        if (s.points[w] >= (tie ? 7 : 4) && lead >= 2) {
            s.last = 1;
            s.points = new int[2];
            s.games[w]++;
            s.turns++;
            if ((s.games[0] + s.games[1]) % 2 != 0) {
                s.changes++;
            }
            if (tie || s.games[w] >= 6 && s.games[w] - s.games[1 - w] >= 2) {
                s.sets.add(s.games);
                s.games = new int[2];
                s.won[w]++;
                s.last = s.won[w] == length ? 3 : 2;
            }
        } else if (tie && sum % 6 == 0) {
            s.changes++;
        }
    }

    private int playable(Match m, int side) {
        if (m == null || !in(side, 0, 1)) {
            return NUMBER;
        }
        if (m.ended()) {
            return ENDED;
        }
        return m.known() ? 0 : UNKNOWN;
    }

    int point(int code, int side) {
        Match m = match(code);
        int no = playable(m, side);
        if (no != 0) {
            return no;
        }
        if (m.points.size() == 300) {
            return FULL;
        }
        m.points.add(side);
        int last = count(m).last;
        if (last == 3) {
            m.how = How.POINTS;
            m.won = side;
        }
        return last;
    }

    private static boolean later(Match m) {
        return m.to != null && (m.to.ended() || !m.to.points.isEmpty());
    }

    private static void reopen(Match m) {
        m.how = How.NOT;
        m.won = -1;
        m.realEnd = null;
    }

    int back(int code) {
        Match m = match(code);
        if (m == null) {
            return NUMBER;
        }
        if (m.ended() && m.how != How.POINTS) {
            return ENDED;
        }
        if (m.points.isEmpty()) {
            return UNKNOWN;
        }
        if (m.ended()) {
            if (later(m)) {
                return LATER;
            }
            reopen(m);
        }
        m.points.remove(m.points.size() - 1);
        return m.points.size();
    }

    int walk(int code, int side) {
        Match m = match(code);
        int no = playable(m, side);
        if (no != 0) {
            return no;
        }
        if (!m.points.isEmpty()) {
            return STATE;
        }
        m.how = How.WALK;
        m.won = side;
        return 1;
    }

    int retire(int code, int side) {
        Match m = match(code);
        int no = playable(m, side);
        if (no != 0) {
            return no;
        }
        if (m.points.isEmpty()) {
            return STATE;
        }
        m.how = How.RETIRE;
        m.won = 1 - side;
        return 1;
    }

    int undo(int code) {
        Match m = match(code);
        if (m == null) {
            return NUMBER;
        }
        if (m.how != How.WALK && m.how != How.RETIRE) {
            return ENDED;
        }
        if (later(m)) {
            return LATER;
        }
        reopen(m);
        return 1;
    }

    int score(int code, int what) {
        Match m = match(code);
        if (m == null || !in(what, 0, 9)) {
            return -1;
        }
        Score s = count(m);
        int serves = s.turns % 2;
        if (s.games[0] == 6 && s.games[1] == 6) {
            for (int i = 1; i <= s.points[0] + s.points[1]; i++) {
                serves = i % 2 == 1 ? 1 - serves : serves;
            }
        }
        return new int[] {s.points[0], s.points[1], s.games[0], s.games[1], s.won[0], s.won[1], serves, s.changes,
            m.points.size(), m.draw.length}[what];
    }

    int games(int code, int k, int side) {
        Match m = match(code);
        if (m == null || !in(side, 0, 1)) {
            return -1;
        }
        Score s = count(m);
        List<int[]> all = new ArrayList<>(s.sets);
        if (m.how != How.POINTS) {
            all.add(s.games);
        }
        return in(k, 0, all.size() - 1) ? all.get(k)[side] : -1;
    }

    int stands(int code) {
        Match m = match(code);
        if (m == null) {
            return -1;
        }
        if (m.ended()) {
            return 2 + m.how.ordinal();
        }
        return !m.known() ? 0 : m.points.isEmpty() ? 1 : 2;
    }

    int winner(int code) {
        Match m = match(code);
        return m == null || !m.ended() ? -1 : m.won;
    }

    int met(int d, int player, int i) {
        Draw draw = at(d);
        List<Integer> met = new ArrayList<>();
        if (draw != null && draw.laid && in(player, 0, 39)) {
            for (Match m : draw.matches) {
                if ((m.how == How.POINTS || m.how == How.RETIRE) && m.has(player)) {
                    met.add(m.who(0) == player ? m.who(1) : m.who(0));
                }
            }
        }
        return in(i, 0, met.size() - 1) ? met.get(i) : -1;
    }

    int meeting(int d, int a, int b) {
        Draw draw = at(d);
        if (draw == null || !draw.laid || a == b || !in(a, 0, 39) || !in(b, 0, 39)) {
            return -1;
        }
        int pa = Arrays.asList(draw.places).indexOf(a);
        int pb = Arrays.asList(draw.places).indexOf(b);
        if (pa < 0 || pb < 0) {
            return -1;
        }
        int round = 0;
        for (int block = 2; pa / block != pb / block; block *= 2) {
            round++;
        }
        for (Match m : draw.matches) {
            if (m.ended() && m.round < round) {
                int loser = m.who(1 - m.won);
                if (loser == a || loser == b) {
                    return -1;
                }
            }
        }
        return round;
    }

    int court(int c, boolean covered, boolean lit, int worth, int opens) {
        if (!in(c, 0, 5) || !in(worth, 0, 99) || !in(opens, 0, 100000)) {
            return NUMBER;
        }
        courts[c].covered = covered;
        courts[c].lit = lit;
        courts[c].worth = worth;
        courts[c].opens = opens;
        return 1;
    }

    int rule(int what, int v) {
        if (!in(what, 0, 3) || !in(v, 0, what == 3 ? 100000 : 2000)) {
            return NUMBER;
        }
        int old = rules[what];
        rules[what] = v;
        return old;
    }

    boolean rain(boolean on) {
        boolean fresh = rain ^ on;
        rain = on;
        return fresh;
    }

    private int add(int c, int[] what) {
        if (courts[c].slots.size() == 6) {
            return FULL;
        }
        courts[c].slots.add(what);
        return courts[c].slots.size() - 1;
    }

    int slot(int c, int code) {
        if (!in(c, 0, 5) || !in(code, 0, 63) || code % 16 == 15) {
            return NUMBER;
        }
        return add(c, new int[] {code, 0});
    }

    int gap(int c, int minutes) {
        if (!in(c, 0, 5) || !in(minutes, 1, 1000)) {
            return NUMBER;
        }
        return add(c, new int[] {-1, minutes});
    }

    private boolean hasSlot(int c, int k) {
        return in(c, 0, 5) && in(k, 0, courts[c].slots.size() - 1);
    }

    int drop(int c, int k) {
        if (!hasSlot(c, k)) {
            return NUMBER;
        }
        courts[c].slots.remove(k);
        return courts[c].slots.size();
    }

    int held(int c, int k) {
        if (!hasSlot(c, k)) {
            return -2000;
        }
        int[] slot = courts[c].slots.get(k);
        return slot[0] < 0 ? -slot[1] : slot[0];
    }

    private List<Integer> realEnds(int player) {
        List<Integer> ends = new ArrayList<>();
        for (Draw draw : draws) {
            if (draw != null && draw.laid) {
                for (Match m : draw.matches) {
                    if (m.realEnd != null && m.has(player)) {
                        ends.add(m.realEnd);
                    }
                }
            }
        }
        return ends;
    }

    private Times[][] plan() {
        Times[][] plan = new Times[6][6];
        List<Times> ahead = new ArrayList<>();
        for (int k = 0; k < 6; k++) {
            for (int c = 0; c < 6; c++) {
                if (k < courts[c].slots.size()) {
                    Times t = plan(c, k, plan, ahead);
                    plan[c][k] = t;
                    if (t != null) {
                        ahead.add(t);
                    }
                }
            }
        }
        return plan;
    }

    private Times plan(int c, int k, Times[][] plan, List<Times> ahead) {
        Court court = courts[c];
        int[] slot = court.slots.get(k);
        if (rain && !court.covered) {
            return null;
        }
        List<Integer> starts = new ArrayList<>();
        starts.add(court.opens);
        for (int i = 0; i < k; i++) {
            if (plan[c][i] != null) {
                starts.set(0, plan[c][i].end);
            }
        }
        Times t = new Times();
        int takes = slot[1];
        if (slot[0] >= 0) {
            t.match = match(slot[0]);
            if (t.match == null || t.match.ended()) {
                return null;
            }
            takes = rules[t.match.draw.length - 1];
            List<Match> there = new ArrayList<>();
            for (Times other : ahead) {
                there.add(other.match);
            }
            if (there.contains(t.match)) {
                return null;
            }
            for (int side = 0; side < 2; side++) {
                if (t.match.who(side) == null && !there.contains(t.match.from[side])) {
                    return null;
                }
            }
            for (int player : t.match.players()) {
                for (int end : realEnds(player)) {
                    starts.add(end + rules[0]);
                }
            }
            for (Times other : ahead) {
                if (other.match == null) {
                    continue;
                }
                Set<Integer> both = other.match.players();
                both.retainAll(t.match.players());
                if (other.match.to == t.match || !both.isEmpty()) {
                    starts.add(other.end + rules[0]);
                }
            }
        }
        t.begin = Collections.max(starts);
        t.end = t.begin + takes;
        return t.end > rules[3] && !court.lit && !court.covered ? null : t;
    }

    int time(int c, int k, int what) {
        if (!hasSlot(c, k) || !in(what, 0, 1)) {
            return -2;
        }
        Times t = plan()[c][k];
        return t == null ? -1 : what == 0 ? t.begin : t.end;
    }

    int over(int code, int minute) {
        Match m = match(code);
        if (m == null || !in(minute, 0, 100000)) {
            return NUMBER;
        }
        if (!m.ended()) {
            return ENDED;
        }
        m.realEnd = minute;
        return 1;
    }

    int end(int code) {
        Match m = match(code);
        return m == null || m.realEnd == null ? -1 : m.realEnd;
    }

    private boolean rested(int player, int minute) {
        for (int end : realEnds(player)) {
            if (minute < end + rules[0]) {
                return false;
            }
        }
        return true;
    }

    int why(int code, int minute) {
        Match m = match(code);
        if (m == null) {
            return 1;
        }
        if (!m.known()) {
            return 2;
        }
        if (m.ended()) {
            return 3;
        }
        if (!m.points.isEmpty()) {
            return 4;
        }
        for (int side = 0; side < 2; side++) {
            if (!rested(m.who(side), minute)) {
                return 5 + side;
            }
        }
        return 0;
    }

    int worth(int code, int worth) {
        if (!in(code, 0, 63) || code % 16 == 15 || !in(worth, 0, 999)) {
            return NUMBER;
        }
        worths[code] = worth;
        return 1;
    }

    int fitted(int c, int minute) {
        List<Integer> may = new ArrayList<>();
        for (int code = 0; code < 64; code++) {
            if (why(code, minute) == 0) {
                may.add(code);
            }
        }
        may.sort(Comparator.comparing((Integer code) -> -worths[code]).thenComparing(code -> code));
        List<Integer> open = new ArrayList<>();
        for (int i = 0; i < 6; i++) {
            if (!rain || courts[i].covered) {
                open.add(i);
            }
        }
        open.sort(Comparator.comparing((Integer i) -> -courts[i].worth).thenComparing(i -> i));
        Set<Integer> busy = new HashSet<>();
        for (int code : may) {
            Set<Integer> players = match(code).players();
            if (open.isEmpty() || !Collections.disjoint(players, busy)) {
                continue;
            }
            busy.addAll(players);
            if (open.remove(0) == c) {
                return code;
            }
        }
        return -1;
    }
}
