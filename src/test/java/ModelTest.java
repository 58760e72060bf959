import java.util.ArrayList;
import java.util.List;
import java.util.Random;
import java.util.function.ToIntFunction;

/** All calls on random valleys, against a second, plainer telling of the document that tries everything. */
public final class ModelTest {
    public static void main(String[] args) {
        int[] worksOf = new int[4];
        for (int i = 0; i < 260; i++) {
            Random random = new Random(4000 + i);
            Model model = new Model(random);
            BentRiver x = Check.river(model.text);
            x.seed(random.nextInt(1 << 30));
            for (int step = 0; step < 4; step++) {
                compare(i, x, model, random, worksOf);
                act(x, model, random);
            }
        }
        for (int k = 0; k < 4; k++) {
            // the random valleys are of no use if they never need none, one, two, or more willows
            Check.due("works of each kind, " + k, worksOf[k] > 20, true);
        }
        Check.finish();
    }

    private static void act(BentRiver x, Model model, Random random) {
        if (random.nextInt(3) == 0) {
            int[] bytes = Check.image(x);
            for (int c = 0; c < model.columns; c++) {
                bytes[5 + c] = random.nextInt(model.rows);
            }
            Check.due("on", Check.on(x, Check.sealed(bytes)), true);
        } else {
            x.chance(1 + random.nextInt(5));
            x.plant(random.nextInt(model.columns), random.nextInt(model.rows));
            x.offer(random.nextInt(5), random.nextInt(2));
        }
        model.take(x);
    }

    private static void compare(int i, BentRiver x, Model model, Random random, int[] worksOf) {
        String at = "valley " + i + " " + model.text + ": ";
        Now now = model.now;
        for (int c = 0; c < model.columns; c++) {
            Check.due(at + "turn of " + c, x.column(c, 1), model.turn(now.runs, c));
            Check.due(at + "bend in " + c, x.column(c, 2) == 1, model.isBend(now, c));
            Check.due(at + "pay of " + c, x.column(c, 3), model.pay(now, c));
            for (int r = 0; r < model.rows; r++) {
                Check.due(at + "eats " + c + " " + r, x.eats(c, r), model.eats(now, c, r));
            }
        }
        Now later = now.copy();
        int straight = -1;
        for (int n = 0; n <= 60; n++) {
            if (n % 7 < 2) {
                for (int c = 0; c < model.columns; c++) {
                    Check.due(at + "later " + c + " " + n, x.later(c, n), later.runs[c]);
                }
                Check.due(at + "sums 0", x.sums(n, 0), model.countBends(later));
                Check.due(at + "sums 1", x.sums(n, 1), later.fund);
                Check.due(at + "sums 2", x.sums(n, 2), later.purse[0] + later.purse[1] + later.purse[2]);
            }
            straight = straight < 0 && model.countBends(later) == 0 ? n : straight;
            model.pass(later, null);
        }
        Check.due(at + "straight", x.straight(), straight);
        int n = 1 + random.nextInt(4);
        Check.due(at + "rest", x.rest(n), model.rest(n));
        works(at, x, model, random.nextInt(model.columns), random.nextInt(model.rows), n, worksOf);
        dream(at, x, model);
        ran(at, x, model, random);
        cuts(at, x, model);
    }

    private static void works(String at, BentRiver x, Model model, int column, int row, int n, int[] worksOf) {
        List<Integer> due = model.works(column, row, n);
        worksOf[due == null ? 3 : due.size()]++;
        String call = at + "works(" + column + ", " + row + ", " + n + ")";
        Check.due(call, x.works(column, row, n, -1), due == null ? -1 : due.size());
        for (int k = 0; k < 2; k++) {
            Check.due(call + " " + k, x.works(column, row, n, k), due != null && k < due.size() ? due.get(k) : -1);
        }
    }

    private static void dream(String at, BentRiver x, Model model) {
        int[] course = model.dream();
        Check.due(at + "dream", x.dream(-1), model.paysOf(course));
        for (int c = 0; c < model.columns; c++) {
            Check.due(at + "dream " + c, x.dream(c), course[c]);
        }
    }

    private static void ran(String at, BentRiver x, Model model, Random random) {
        int told = random.nextInt(model.columns);
        int count = 1 + random.nextInt(3);
        int[] seen = new int[3 * count];
        Now other = model.now.copy();
        other.runs[told] = random.nextInt(model.rows);
        for (int k = 0; k < count; k++) {
            seen[3 * k] = random.nextInt(5);
            seen[3 * k + 1] = random.nextInt(model.columns);
            seen[3 * k + 2] = model.behind(other, seen[3 * k]).runs[seen[3 * k + 1]];
        }
        Check.feed(x, seen);
        Check.due(at + "see", x.see(), count);
        for (int c = 0; c < model.columns; c++) {
            int bits = model.ran(c, seen);
            Check.due(at + "ran " + c, x.ran(c), bits);
            int[] telling = model.tells(c, bits);
            Check.due(at + "tells " + c, x.tells(c, 0), telling[0]);
            Check.due(at + "tells most of " + c, x.tells(c, 1), telling[1]);
        }
    }

    private static void cuts(String at, BentRiver x, Model model) {
        int now = x.barge();
        int best = -1;
        int least = now;
        for (int c = 0; c < model.columns; c++) {
            if (x.cut(c)) {
                if (x.barge() < least) {
                    least = x.barge();
                    best = c;
                }
                x.undo();
            }
        }
        Check.due(at + "cuts", x.cuts(), best);
    }

    /** What a random SUM or TEST says, and what it comes to. */
    private static final class Say {
        final String text;
        final ToIntFunction<int[]> value;

        Say(String text, ToIntFunction<int[]> value) {
            this.text = text;
            this.value = value;
        }

        private static int bounded(long number) {
            return (int) Math.max(-1000000, Math.min(1000000, number));
        }

        private static Say part(Random random, String[] words, int deep) {
            int kind = random.nextInt(deep > 0 ? 9 : 7);
            if (kind < 5) {
                int word = random.nextInt(words.length);
                return new Say(words[word], facts -> facts[word]);
            }
            if (kind < 7) {
                int number = random.nextInt(random.nextInt(8) == 0 ? 9999 : 7);
                return new Say("" + number, facts -> number);
            }
            Say one = sum(random, words, deep - 1);
            if (kind == 7) {
                return new Say("(" + one.text + ")", one.value);
            }
            Say two = sum(random, words, deep - 1);
            boolean least = random.nextBoolean();
            return new Say((least ? "min(" : "max(") + one.text + " ,\n" + two.text + ")",
                facts -> least ? Math.min(one.value.applyAsInt(facts), two.value.applyAsInt(facts))
                    : Math.max(one.value.applyAsInt(facts), two.value.applyAsInt(facts)));
        }

        private static Say product(Random random, String[] words, int deep) {
            Say all = part(random, words, deep);
            while (random.nextInt(4) == 0) {
                Say left = all;
                Say right = part(random, words, deep);
                if (random.nextInt(3) == 0) {
                    all = new Say(left.text + "/" + right.text, facts -> {
                        int by = right.value.applyAsInt(facts);
                        return by == 0 ? 0 : (int) Math.floor(left.value.applyAsInt(facts) / (double) by);
                    });
                } else {
                    all = new Say(left.text + " * " + right.text,
                        facts -> bounded((long) left.value.applyAsInt(facts) * right.value.applyAsInt(facts)));
                }
            }
            return all;
        }

        static Say sum(Random random, String[] words, int deep) {
            Say all = product(random, words, deep);
            while (random.nextInt(5) < 2) {
                Say left = all;
                Say right = product(random, words, deep);
                int sign = random.nextBoolean() ? 1 : -1;
                all = new Say(left.text + (sign > 0 ? "+" : "-") + right.text, facts ->
                    bounded((long) left.value.applyAsInt(facts) + sign * right.value.applyAsInt(facts)));
            }
            return all;
        }

        private static Say fact(Random random, String[] words, int deep) {
            int kind = random.nextInt(deep > 0 ? 8 : 6);
            if (kind == 6) {
                Say inner = fact(random, words, deep - 1);
                return new Say("not " + inner.text, facts -> 1 - inner.value.applyAsInt(facts));
            }
            if (kind == 7) {
                Say inner = test(random, words, deep - 1);
                return new Say("[" + inner.text + "]", inner.value);
            }
            if (kind == 5 && random.nextInt(4) == 0) {
                return new Say("all", facts -> 1);
            }
            Say left = sum(random, words, deep);
            Say right = sum(random, words, deep);
            char sign = "<>=".charAt(random.nextInt(3));
            return new Say(left.text + sign + right.text, facts -> {
                int order = Integer.compare(left.value.applyAsInt(facts), right.value.applyAsInt(facts));
                return (sign == '<' ? order < 0 : sign == '>' ? order > 0 : order == 0) ? 1 : 0;
            });
        }

        static Say test(Random random, String[] words, int deep) {
            Say all = fact(random, words, deep);
            StringBuilder text = new StringBuilder(all.text);
            List<List<Say>> ors = new ArrayList<>();
            ors.add(new ArrayList<>(List.of(all)));
            while (random.nextInt(3) == 0) {
                Say next = fact(random, words, deep);
                if (random.nextBoolean()) {
                    text.append(" and ").append(next.text);
                    ors.get(ors.size() - 1).add(next);
                } else {
                    text.append(" or ").append(next.text);
                    ors.add(new ArrayList<>(List.of(next)));
                }
            }
            return new Say(text.toString(), facts ->
                ors.stream().anyMatch(ands -> ands.stream().allMatch(f -> f.value.applyAsInt(facts) == 1)) ? 1 : 0);
        }
    }

    private static final class Now {
        int season;
        int fund;
        int[] runs;
        int[][] willows;
        int[][] times;
        boolean[] offers;
        int[] purse;

        Now copy() {
            Now other = new Now();
            other.season = season;
            other.fund = fund;
            other.runs = runs.clone();
            other.willows = deep(willows);
            other.times = deep(times);
            other.offers = offers.clone();
            other.purse = purse.clone();
            return other;
        }

        private static int[][] deep(int[][] cells) {
            int[][] copy = new int[cells.length][];
            for (int c = 0; c < cells.length; c++) {
                copy[c] = cells[c].clone();
            }
            return copy;
        }
    }

    private static final class Model {
        private static final String[] EATS = {"column", "row", "turn", "season", "soil", "roots", "pay", "ever", "roots"};
        private static final String[] BEND = {"column", "row", "turn", "season", "before", "behind", "turn"};
        final String text;
        final int columns;
        final int rows;
        final int reach;
        final int[][] soil;
        final int[] from = new int[3];
        final int[] to = new int[3];
        final int[] pays = new int[3];
        final int[] joy = new int[3];
        final Say eats;
        final Say bend;
        final Now now = new Now();

        Model(Random random) {
            columns = 3 + random.nextInt(3);
            rows = 2 + random.nextInt(3);
            reach = 1 + random.nextInt(3);
            soil = new int[columns][rows];
            now.runs = new int[columns];
            now.willows = new int[columns][rows];
            now.times = new int[columns][rows];
            now.offers = new boolean[] {true, true, true};
            now.purse = new int[3];
            StringBuilder all = new StringBuilder("valley " + columns + " by " + rows + " reach " + reach + ";spate 50;");
            for (int c = 0; c < columns; c++) {
                now.runs[c] = random.nextInt(rows);
                all.append("runs ").append(c).append(' ').append(now.runs[c]).append(';');
                for (int r = 0; r < rows; r++) {
                    soil[c][r] = random.nextInt(4);
                    all.append("soil ").append(c).append(' ').append(r).append(' ').append(soil[c][r]).append(';');
                    for (int k = random.nextInt(9) == 0 ? random.nextInt(10) : 0; k > 0 && all.length() < 700; k--) {
                        now.willows[c][r]++;
                        all.append("willow ").append(c).append(' ').append(r).append(';');
                    }
                }
            }
            for (int l = 0; l < 3; l++) {
                from[l] = random.nextInt(columns);
                to[l] = from[l] + random.nextInt(columns - from[l]);
                pays[l] = random.nextInt(6);
                joy[l] = random.nextInt(12);
                now.purse[l] = random.nextInt(60);
                all.append("lord ").append((char) ('x' + l)).append(" from ").append(from[l]).append(" to ").append(to[l])
                    .append(" pays ").append(pays[l]).append(" joy ").append(joy[l]).append(" purse ")
                    .append(now.purse[l]).append(';');
            }
            boolean plain = random.nextInt(4) == 0;
            eats = plain ? new Say("pay+turn-soil-roots", f -> f[6] + f[2] - f[4] - f[5])
                : short_(random, true);
            bend = random.nextInt(4) == 0 ? new Say("turn > 0", f -> f[2] > 0 ? 1 : 0) : short_(random, false);
            if (!plain || random.nextBoolean()) {
                all.append("eats ").append(eats.text).append(';');
            }
            text = all.append("bend ").append(bend.text).append(';').toString();
        }

        private static Say short_(Random random, boolean isSum) {
            while (true) {
                Say say = isSum ? Say.sum(random, EATS, 3) : Say.test(random, BEND, 2);
                if (say.text.length() < 300) {
                    return say;
                }
            }
        }

        /** The state as the object tells it: what ACTS do to it is tested elsewhere. */
        void take(BentRiver x) {
            now.season = x.has(3);
            now.fund = x.has(4);
            for (int c = 0; c < columns; c++) {
                now.runs[c] = x.column(c, 0);
                for (int r = 0; r < rows; r++) {
                    now.willows[c][r] = x.cell(c, r, 1);
                    now.times[c][r] = x.cell(c, r, 2);
                }
            }
            for (int l = 0; l < 3; l++) {
                now.offers[l] = x.lord(l, 5) == 1;
                now.purse[l] = x.lord(l, 4);
            }
        }

        int turn(int[] runs, int c) {
            return c == 0 || c == columns - 1 ? 0 : Math.abs(runs[c - 1] + runs[c + 1] - 2 * runs[c]);
        }

        int offer(Now state, int l) {
            return state.offers[l] && state.purse[l] >= pays[l] ? pays[l] : 0;
        }

        int pay(Now state, int c) {
            int sum = 0;
            for (int l = 0; l < 3; l++) {
                sum += from[l] <= c && c <= to[l] ? offer(state, l) : 0;
            }
            return sum;
        }

        int eats(Now state, int c, int r) {
            return eats.value.applyAsInt(new int[] {c, r, turn(state.runs, c), state.season, soil[c][r],
                state.willows[c][r], pay(state, c), state.times[c][r], state.willows[c][r]});
        }

        boolean isBend(Now state, int c) {
            return isBend(state.runs, state.season, c);
        }

        boolean isBend(int[] runs, int season, int c) {
            int turn = turn(runs, c);
            return bend.value.applyAsInt(new int[] {c, runs[c], turn, season, runs[Math.max(c - 1, 0)],
                runs[Math.min(c + 1, columns - 1)], turn}) == 1;
        }

        int countBends(Now state) {
            int count = 0;
            for (int c = 0; c < columns; c++) {
                count += isBend(state, c) ? 1 : 0;
            }
            return count;
        }

        void pass(Now state, int[] gains) {
            for (int c = 0; c < columns; c++) {
                int less = sumIfMay(state, c, state.runs[c] - 1);
                int more = sumIfMay(state, c, state.runs[c] + 1);
                if (less > 0 && less >= more) {
                    state.runs[c]--;
                } else if (more > 0) {
                    state.runs[c]++;
                }
            }
            for (int c = 0; c < columns; c++) {
                state.times[c][state.runs[c]] = Math.min(99, state.times[c][state.runs[c]] + 1);
            }
            for (int c = 0; c < columns; c++) {
                for (int l = 0; l < 3 && isBend(state, c); l++) {
                    if (from[l] <= c && c <= to[l]) {
                        int offer = offer(state, l);
                        state.purse[l] -= offer;
                        state.fund = Math.min(999999, state.fund + offer);
                        if (gains != null) {
                            gains[l] += joy[l] - offer;
                        }
                    }
                }
            }
            state.season++;
        }

        private int sumIfMay(Now state, int c, int r) {
            boolean may = r >= 0 && r < rows && (c == 0 || Math.abs(state.runs[c - 1] - r) <= reach)
                && (c == columns - 1 || Math.abs(state.runs[c + 1] - r) <= reach);
            return may ? eats(state, c, r) : 0;
        }

        Now behind(Now state, int n) {
            Now later = state.copy();
            for (int i = 0; i < n; i++) {
                pass(later, null);
            }
            return later;
        }

        List<Integer> works(int column, int row, int n) {
            if (behind(now, n).runs[column] == row) {
                return List.of();
            }
            for (int a = 0; a < columns * rows; a++) {
                if (landsWith(column, row, n, a)) {
                    return List.of(a / rows * 8 + a % rows);
                }
            }
            for (int a = 0; a < columns * rows; a++) {
                for (int b = a; b < columns * rows; b++) {
                    if (landsWith(column, row, n, a, b)) {
                        return List.of(a / rows * 8 + a % rows, b / rows * 8 + b % rows);
                    }
                }
            }
            return null;
        }

        private boolean landsWith(int column, int row, int n, int... cells) {
            Now state = now.copy();
            for (int cell : cells) {
                if (++state.willows[cell / rows][cell % rows] > 9) {
                    return false;
                }
            }
            return behind(state, n).runs[column] == row;
        }

        int rest(int n) {
            int[][] gains = new int[8][3];
            for (int set = 0; set < 8; set++) {
                Now state = now.copy();
                for (int l = 0; l < 3; l++) {
                    state.offers[l] = (set & 1 << l) != 0;
                }
                for (int i = 0; i < n; i++) {
                    pass(state, gains[set]);
                }
            }
            for (int size = 0; size <= 3; size++) {
                for (int set = 0; set < 8; set++) {
                    boolean rests = Integer.bitCount(set) == size;
                    for (int l = 0; l < 3; l++) {
                        rests = rests && gains[set ^ 1 << l][l] <= gains[set][l];
                    }
                    if (rests) {
                        return set;
                    }
                }
            }
            return -1;
        }

        int paysOf(int[] course) {
            int sum = 0;
            for (int c = 0; c < columns; c++) {
                sum += isBend(course, now.season, c) ? pay(now, c) : 0;
            }
            return sum;
        }

        int[] dream() {
            int[] best = null;
            int[] course = new int[columns];
            int all = (int) Math.round(Math.pow(rows, columns));
            for (int k = 0; k < all; k++) {
                boolean near = true;
                int rest = k;
                for (int c = columns - 1; c >= 0; c--) {
                    course[c] = rest % rows;
                    rest /= rows;
                    near = near && (c == columns - 1 || Math.abs(course[c] - course[c + 1]) <= reach);
                }
                if (near && (best == null || paysOf(course) > paysOf(best))) {
                    best = course.clone();
                }
            }
            return best;
        }

        int ran(int column, int[] seen) {
            int bits = 0;
            for (int r = 0; r < rows; r++) {
                Now state = now.copy();
                state.runs[column] = r;
                boolean fits = true;
                for (int i = 0; i < seen.length; i += 3) {
                    fits = fits && behind(state, seen[i]).runs[seen[i + 1]] == seen[i + 2];
                }
                bits |= fits ? 1 << r : 0;
            }
            return bits;
        }

        int[] tells(int column, int bits) {
            int[] best = {-1, -1};
            for (int n = 1; n <= 30 && bits != 0; n++) {
                int[] left = new int[rows];
                int most = 0;
                for (int r = 0; r < rows; r++) {
                    if ((bits & 1 << r) != 0) {
                        Now state = now.copy();
                        state.runs[column] = r;
                        most = Math.max(most, ++left[behind(state, n).runs[column]]);
                    }
                }
                if (best[0] == -1 || most < best[1]) {
                    best = new int[] {n, most};
                }
            }
            return best;
        }
    }
}
