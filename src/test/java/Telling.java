import java.util.ArrayList;
import java.util.HashMap;
import java.util.List;
import java.util.Map;
import java.util.Set;

/** The whole document told a second time, as plainly as it goes: all is copied, all is tried, nothing is left out. */
final class Telling {
    private static final Set<String> OWN_WORDS = Set.of(("valley by reach runs soil willow lord from to pays joy purse eats "
        + "bend spate column row turn season roots pay ever before behind number offers bends or and not all min max").split(" "));
    private static final Set<String> EATS_WORDS = Set.of("column", "row", "turn", "season", "soil", "roots", "pay", "ever");
    private static final Set<String> BEND_WORDS = Set.of("column", "row", "turn", "season", "before", "behind");
    private static final Set<String> ASK_WORDS =
        Set.of("number", "from", "to", "pays", "joy", "purse", "offers", "bends", "season");
    private static final long NOTHING = -1000000000000000L;

    private List<Integer> tape = new ArrayList<>();
    private Land land = null;
    private Now now = new Now();
    private final List<Now> acts = new ArrayList<>();
    private List<int[]> seen = new ArrayList<>();
    private List<Integer> latestImage = new ArrayList<>();
    private final int[] refused = new int[6];
    private long seed = 1;
    private int fault = 0;
    private int faultPlace = -1;

    /** What words come to in some place; the argument is that of row PART and turn PART. */
    interface Words {
        long told(String word, long argument);
    }

    /** A SUM, or a TEST, which is 1 or 0. */
    interface Value {
        long by(Words words);
    }

    static final class Fault extends RuntimeException {
        final int kind;
        final int place;

        Fault(int kind, int place) {
            super(null, null, false, false);
            this.kind = kind;
            this.place = place;
        }
    }

    static final class Lord {
        String name;
        int from;
        int to;
        int pays;
        int joy;
        int purse;
    }

    static final class Land {
        int columns;
        int rows;
        int reach;
        int spate = 0;
        int statements = 0;
        final Map<Integer, Integer> runs = new HashMap<>();
        final Map<Integer, Integer> soils = new HashMap<>();
        final Map<Integer, Integer> willows = new HashMap<>();
        final List<Lord> lords = new ArrayList<>();
        Value eats = null;
        Value bend = null;
    }

    static final class Now {
        int season = 0;
        int fund = 0;
        int[] runs = {};
        int[][] willows = {};
        int[][] ever = {};
        int[] offers = {};
        int[] purses = {};
        List<int[]> kept = new ArrayList<>();
        int bends = 0;
        int[] bendsOf = {};

        Now copy() {
            Now other = new Now();
            other.season = season;
            other.fund = fund;
            other.runs = runs.clone();
            other.willows = cloned(willows);
            other.ever = cloned(ever);
            other.offers = offers.clone();
            other.purses = purses.clone();
            other.kept = new ArrayList<>(kept);
            other.bendsOf = new int[offers.length];
            return other;
        }

        private static int[][] cloned(int[][] rows) {
            int[][] other = rows.clone();
            for (int i = 0; i < rows.length; i++) {
                other[i] = rows[i].clone();
            }
            return other;
        }
    }

    /** Reads a text a token at a time; a token is a run of letters, a run of digits, or one other byte. */
    private static final class Reading {
        private final List<Integer> text;
        private final Set<String> words;
        private final boolean asking;
        int at = 0;
        String token = "";
        private int behind = 0;

        Reading(List<Integer> text, Set<String> words, boolean asking) {
            this.text = text;
            this.words = words;
            this.asking = asking;
            next();
        }

        private static boolean isLetter(int sign) {
            return sign >= 97 && sign <= 122;
        }

        private static boolean isDigit(int sign) {
            return sign >= 48 && sign <= 57;
        }

        void next() {
            boolean joined = behind > 0 && (isLetter(text.get(behind - 1)) || isDigit(text.get(behind - 1)));
            at = behind;
            while (at < text.size() && (text.get(at) == 10 || text.get(at) == 32)) {
                at++;
                joined = false;
            }
            StringBuilder read = new StringBuilder();
            int end = at;
            while (end < text.size() && (end == at || isLetter(text.get(at)) && isLetter(text.get(end))
                || isDigit(text.get(at)) && isDigit(text.get(end)))) {
                read.append((char) (int) text.get(end));
                end++;
            }
            behind = end;
            token = read.toString();
            if (joined && at < text.size() && (isLetter(text.get(at)) || isDigit(text.get(at)))) {
                throw new Fault(1, at);
            }
        }

        Reading with(Set<String> others) {
            Reading reading = new Reading(text, others, asking);
            reading.at = at;
            reading.token = token;
            reading.behind = behind;
            return reading;
        }

        void follow(Reading other) {
            at = other.at;
            token = other.token;
            behind = other.behind;
        }

        void need(String wanted) {
            if (!token.equals(wanted)) {
                throw new Fault(1, at);
            }
            next();
        }

        int number(int least, int most) {
            if (token.isEmpty() || !isDigit(token.charAt(0))) {
                throw new Fault(1, at);
            }
            if (token.length() > 4) {
                throw new Fault(1, at + 4);
            }
            int number = Integer.parseInt(token);
            if (number < least || number > most) {
                throw new Fault(2, at);
            }
            next();
            return number;
        }

        private static long bounded(long number) {
            return number > 1000000 ? 1000000 : number < -1000000 ? -1000000 : number;
        }

        Value test(int open) {
            Value left = both(open);
            while (token.equals("or")) {
                next();
                Value one = left;
                Value two = both(open);
                left = words -> one.by(words) + two.by(words) > 0 ? 1 : 0;
            }
            return left;
        }

        private Value both(int open) {
            Value left = fact(open);
            while (token.equals("and")) {
                next();
                Value one = left;
                Value two = fact(open);
                left = words -> one.by(words) * two.by(words);
            }
            return left;
        }

        private int opened(int open) {
            if (open == 6) {
                throw new Fault(4, at);
            }
            next();
            return open + 1;
        }

        private Value fact(int open) {
            if (token.equals("not")) {
                Value inner = fact(opened(open));
                return words -> inner.by(words) == 0 ? 1 : 0;
            }
            if (token.equals("[")) {
                Value inner = test(opened(open));
                need("]");
                return inner;
            }
            if (token.equals("all")) {
                next();
                return words -> 1;
            }
            Value one = sum(open);
            String sign = token;
            if (!Set.of("<", ">", "=").contains(sign)) {
                throw new Fault(1, at);
            }
            next();
            Value two = sum(open);
            return words -> {
                int order = Long.compare(one.by(words), two.by(words));
                return (sign.equals("<") ? order < 0 : sign.equals(">") ? order > 0 : order == 0) ? 1 : 0;
            };
        }

        Value sum(int open) {
            Value left = product(open);
            while (token.equals("+") || token.equals("-")) {
                int sign = token.equals("+") ? 1 : -1;
                next();
                Value one = left;
                Value two = product(open);
                left = words -> bounded(one.by(words) + sign * two.by(words));
            }
            return left;
        }

        private Value product(int open) {
            Value left = part(open);
            while (token.equals("*") || token.equals("/")) {
                boolean times = token.equals("*");
                next();
                Value one = left;
                Value two = part(open);
                left = words -> {
                    long by = two.by(words);
                    return times ? bounded(one.by(words) * by) : by == 0 ? 0 : Math.floorDiv(one.by(words), by);
                };
            }
            return left;
        }

        private Value part(int open) {
            String word = token;
            if (!word.isEmpty() && isDigit(word.charAt(0))) {
                int number = number(0, 9999);
                return words -> number;
            }
            if (word.equals("(")) {
                Value inner = sum(opened(open));
                need(")");
                return inner;
            }
            if (word.equals("min") || word.equals("max")) {
                next();
                if (!token.equals("(")) {
                    throw new Fault(1, at);
                }
                int more = opened(open);
                Value one = sum(more);
                need(",");
                Value two = sum(more);
                need(")");
                return words -> word.equals("min") ? Math.min(one.by(words), two.by(words))
                    : Math.max(one.by(words), two.by(words));
            }
            if (asking && (word.equals("row") || word.equals("turn"))) {
                Value of = part(opened(open));
                return words -> words.told(word, of.by(words));
            }
            if (!words.contains(word)) {
                throw new Fault(1, at);
            }
            next();
            return told -> told.told(word, 0);
        }
    }

    private static Land readLand(List<Integer> text) {
        Land land = new Land();
        Reading reading = new Reading(text, Set.of(), false);
        if (reading.token.isEmpty()) {
            throw new Fault(1, text.size());
        }
        reading.need("valley");
        land.columns = reading.number(3, 10);
        reading.need("by");
        land.rows = reading.number(2, 8);
        reading.need("reach");
        land.reach = reading.number(1, 7);
        reading.need(";");
        land.statements = 1;
        while (!reading.token.isEmpty()) {
            if (land.statements == 80) {
                throw new Fault(5, reading.at);
            }
            readStatement(reading, land);
            reading.need(";");
            land.statements++;
        }
        return land;
    }

    private static void readStatement(Reading reading, Land land) {
        String word = reading.token;
        int at = reading.at;
        switch (word) {
            case "runs", "soil", "willow" -> {
                reading.next();
                int column = reading.number(0, land.columns - 1);
                int rowAt = reading.at;
                int row = reading.number(0, land.rows - 1);
                int cell = 100 * column + row;
                if (word.equals("runs")) {
                    land.runs.put(column, row);
                } else if (word.equals("soil")) {
                    land.soils.put(cell, reading.number(0, 9));
                } else if (land.willows.merge(cell, 1, Integer::sum) > 9) {
                    throw new Fault(2, rowAt);
                }
            }
            case "spate" -> {
                reading.next();
                land.spate = reading.number(0, 100);
            }
            case "eats", "bend" -> {
                boolean eats = word.equals("eats");
                if ((eats ? land.eats : land.bend) != null) {
                    throw new Fault(5, at);
                }
                reading.next();
                Reading inner = reading.with(eats ? EATS_WORDS : BEND_WORDS);
                if (eats) {
                    land.eats = inner.sum(0);
                } else {
                    land.bend = inner.test(0);
                }
                reading.follow(inner);
            }
            case "lord" -> readLord(reading, land);
            default -> throw new Fault(1, at);
        }
    }

    private static void readLord(Reading reading, Land land) {
        if (land.lords.size() == 5) {
            throw new Fault(5, reading.at);
        }
        reading.next();
        Lord lord = new Lord();
        lord.name = reading.token;
        if (!lord.name.matches("[a-z]+") || OWN_WORDS.contains(lord.name)) {
            throw new Fault(1, reading.at);
        }
        if (lord.name.length() > 6) {
            throw new Fault(1, reading.at + 6);
        }
        for (Lord other : land.lords) {
            if (other.name.equals(lord.name)) {
                throw new Fault(3, reading.at);
            }
        }
        reading.next();
        reading.need("from");
        lord.from = reading.number(0, land.columns - 1);
        reading.need("to");
        lord.to = reading.number(lord.from, land.columns - 1);
        reading.need("pays");
        lord.pays = reading.number(0, 99);
        reading.need("joy");
        lord.joy = reading.number(0, 99);
        reading.need("purse");
        lord.purse = reading.number(0, 999);
        land.lords.add(lord);
    }

    // What is so in a state.

    private int turn(Now then, int column) {
        if (column == 0 || column == land.columns - 1) {
            return 0;
        }
        return Math.abs(then.runs[column - 1] + then.runs[column + 1] - 2 * then.runs[column]);
    }

    private int offers(Now then, int lord) {
        int pays = land.lords.get(lord).pays;
        return then.offers[lord] == 1 && then.purses[lord] >= pays ? pays : 0;
    }

    private boolean owns(int lord, int column) {
        return column >= land.lords.get(lord).from && column <= land.lords.get(lord).to;
    }

    private int pay(Now then, int column) {
        int all = 0;
        for (int lord = 0; lord < land.lords.size(); lord++) {
            all += owns(lord, column) ? offers(then, lord) : 0;
        }
        return all;
    }

    private long eaten(Now then, int column, int row) {
        int turns = turn(then, column);
        int soil = land.soils.getOrDefault(100 * column + row, 5);
        int roots = then.willows[column][row];
        if (land.eats == null) {
            return pay(then, column) + turns - soil - roots;
        }
        return land.eats.by((word, none) -> switch (word) {
            case "column" -> column;
            case "row" -> row;
            case "turn" -> turns;
            case "season" -> then.season;
            case "soil" -> soil;
            case "roots" -> roots;
            case "pay" -> pay(then, column);
            default -> then.ever[column][row];
        });
    }

    private boolean bent(Now then, int column) {
        int turns = turn(then, column);
        if (land.bend == null) {
            return turns > 0;
        }
        return land.bend.by((word, none) -> switch (word) {
            case "column" -> column;
            case "row" -> then.runs[column];
            case "turn" -> turns;
            case "season" -> then.season;
            case "before" -> then.runs[Math.max(column - 1, 0)];
            default -> then.runs[Math.min(column + 1, land.columns - 1)];
        }) == 1;
    }

    private int bends(Now then, int from, int to) {
        int count = 0;
        for (int column = from; column <= to; column++) {
            count += bent(then, column) ? 1 : 0;
        }
        return count;
    }

    private boolean near(Now then, int column, int row) {
        if (row < 0 || row >= land.rows) {
            return false;
        }
        for (int next : new int[] {column - 1, column + 1}) {
            if (next >= 0 && next < land.columns && Math.abs(then.runs[next] - row) > land.reach) {
                return false;
            }
        }
        return true;
    }

    private int pass(Now then) {
        for (int column = 0; column < land.columns; column++) {
            int less = then.runs[column] - 1;
            int more = then.runs[column] + 1;
            long ofLess = near(then, column, less) ? eaten(then, column, less) : NOTHING;
            long ofMore = near(then, column, more) ? eaten(then, column, more) : NOTHING;
            if (ofLess > 0 && ofLess >= ofMore) {
                then.runs[column] = less;
            } else if (ofMore > 0) {
                then.runs[column] = more;
            }
        }
        for (int column = 0; column < land.columns; column++) {
            int row = then.runs[column];
            then.ever[column][row] = Math.min(99, then.ever[column][row] + 1);
        }
        int paid = 0;
        int count = 0;
        for (int column = 0; column < land.columns; column++) {
            if (!bent(then, column)) {
                continue;
            }
            count++;
            for (int lord = 0; lord < land.lords.size(); lord++) {
                if (owns(lord, column)) {
                    int pays = offers(then, lord);
                    then.bendsOf[lord]++;
                    then.purses[lord] -= pays;
                    then.fund = Math.min(999999, then.fund + pays);
                    paid += pays;
                }
            }
        }
        then.kept.add(new int[] {then.season, count, paid});
        then.season++;
        return paid;
    }

    private Now behind(Now from, int n) {
        Now then = from.copy();
        for (int i = 0; i < n; i++) {
            pass(then);
        }
        return then;
    }

    private boolean isColumn(int column) {
        return land != null && column >= 0 && column < land.columns;
    }

    private boolean isCell(int column, int row) {
        return isColumn(column) && row >= 0 && row < land.rows;
    }

    private boolean isLord(int lord) {
        return land != null && lord >= 0 && lord < land.lords.size();
    }

    private boolean comes(int n, int least, int most) {
        return land != null && n >= least && n <= most && now.season + n <= 999;
    }

    private int refuse(int what) {
        refused[what]++;
        return -1;
    }

    private List<Integer> takeTape() {
        List<Integer> taken = tape;
        tape = new ArrayList<>();
        return taken;
    }

    // The calls.

    int feed(int... five) {
        if (tape.size() + 20 > 1600) {
            return refuse(0);
        }
        for (int number : five) {
            for (int shift : new int[] {24, 16, 8, 0}) {
                tape.add(number >> shift & 255);
            }
        }
        return tape.size();
    }

    boolean end(int n) {
        if (n < 0 || n > tape.size()) {
            refuse(0);
            return false;
        }
        tape = new ArrayList<>(tape.subList(0, n));
        return true;
    }

    int valley() {
        fault = 0;
        faultPlace = -1;
        try {
            land = readLand(takeTape());
        } catch (Fault found) {
            fault = found.kind;
            faultPlace = found.place;
            return refuse(1);
        }
        now = new Now();
        int lords = land.lords.size();
        now.runs = new int[land.columns];
        now.willows = new int[land.columns][land.rows];
        now.ever = new int[land.columns][land.rows];
        now.offers = new int[lords];
        now.purses = new int[lords];
        now.bendsOf = new int[lords];
        for (int lord = 0; lord < lords; lord++) {
            now.offers[lord] = 1;
            now.purses[lord] = land.lords.get(lord).purse;
        }
        for (int column = 0; column < land.columns; column++) {
            now.runs[column] = land.runs.getOrDefault(column, 0);
            for (int row = 0; row < land.rows; row++) {
                now.willows[column][row] = land.willows.getOrDefault(100 * column + row, 0);
            }
        }
        acts.clear();
        seen.clear();
        return land.statements;
    }

    int fault(int what) {
        return what == 0 ? fault : what == 1 ? faultPlace : -1;
    }

    int has(int what) {
        if (land == null) {
            return what >= 0 && what <= 10 ? 0 : -1;
        }
        int count = 0;
        switch (what) {
            case 0: return land.columns;
            case 1: return land.rows;
            case 2: return land.lords.size();
            case 3: return now.season;
            case 4: return now.fund;
            case 5: return bends(now, 0, land.columns - 1);
            case 6:
                for (int offer : now.offers) {
                    count += offer;
                }
                return count;
            case 7:
                for (int[] column : now.willows) {
                    for (int willows : column) {
                        count += willows;
                    }
                }
                return count;
            case 8: return Math.min(40, now.kept.size());
            case 9: return seen.size();
            case 10: return acts.size();
            default: return -1;
        }
    }

    int letter(int lord, int k) {
        if (!isLord(lord) || k < 0 || k > 5) {
            return -1;
        }
        String name = land.lords.get(lord).name;
        return k < name.length() ? name.charAt(k) - 'a' + 1 : 0;
    }

    int column(int column, int what) {
        if (!isColumn(column) || what < 0 || what > 3) {
            return -1;
        }
        return what == 0 ? now.runs[column] : what == 1 ? turn(now, column)
            : what == 2 ? bends(now, column, column) : pay(now, column);
    }

    int cell(int column, int row, int what) {
        if (!isCell(column, row) || what < 0 || what > 2) {
            return -1;
        }
        return what == 0 ? land.soils.getOrDefault(100 * column + row, 5)
            : what == 1 ? now.willows[column][row] : now.ever[column][row];
    }

    long eats(int column, int row) {
        return isCell(column, row) ? eaten(now, column, row) : NOTHING;
    }

    int lord(int lord, int what) {
        if (!isLord(lord) || what < 0 || what > 6) {
            return -1;
        }
        Lord told = land.lords.get(lord);
        return new int[] {told.from, told.to, told.pays, told.joy, now.purses[lord], now.offers[lord],
            bends(now, told.from, told.to)}[what];
    }

    int kept(int k, int what) {
        int told = Math.min(40, now.kept.size());
        return k < 0 || k >= told || what < 0 || what > 2 ? -1 : now.kept.get(now.kept.size() - told + k)[what];
    }

    int later(int column, int n) {
        return isColumn(column) && comes(n, 0, 60) ? behind(now, n).runs[column] : -1;
    }

    int sums(int n, int what) {
        if (!comes(n, 0, 60) || what < 0 || what > 2) {
            return -1;
        }
        Now then = behind(now, n);
        int purses = 0;
        for (int purse : then.purses) {
            purses += purse;
        }
        return what == 0 ? bends(then, 0, land.columns - 1) : what == 1 ? then.fund : purses;
    }

    int straight() {
        for (int n = 0; comes(n, 0, 60); n++) {
            if (sums(n, 0) == 0) {
                return n;
            }
        }
        return -1;
    }

    int works(int column, int row, int n, int k) {
        if (!isCell(column, row) || !comes(n, 1, 20)) {
            return -1;
        }
        List<Integer> found = willowsFor(column, row, n);
        return found == null ? -1 : k == -1 ? found.size() : k >= 0 && k < found.size() ? found.get(k) : -1;
    }

    private List<Integer> willowsFor(int column, int row, int n) {
        List<List<Integer>> all = new ArrayList<>();
        all.add(List.of());
        List<Integer> cells = new ArrayList<>();
        for (int c = 0; c < land.columns; c++) {
            for (int r = 0; r < land.rows; r++) {
                cells.add(8 * c + r);
            }
        }
        cells.forEach(one -> all.add(List.of(one)));
        cells.forEach(one -> cells.stream().filter(two -> two >= one).forEach(two -> all.add(List.of(one, two))));
        for (List<Integer> some : all) {
            Now then = now.copy();
            boolean can = true;
            for (int cell : some) {
                can = can && ++then.willows[cell / 8][cell % 8] <= 9;
            }
            if (can && behind(then, n).runs[column] == row) {
                return some;
            }
        }
        return null;
    }

    int rest(int n) {
        if (!comes(n, 1, 30)) {
            return -1;
        }
        int lords = land.lords.size();
        int best = -1;
        for (int set = 0; set < 1 << lords; set++) {
            boolean rests = true;
            for (int lord = 0; lord < lords; lord++) {
                rests = rests && gain(set, lord, n) >= gain(set ^ 1 << lord, lord, n);
            }
            if (rests && (best < 0 || Integer.bitCount(set) < Integer.bitCount(best))) {
                best = set;
            }
        }
        return best;
    }

    private int gain(int set, int lord, int n) {
        Now then = now.copy();
        for (int other = 0; other < then.offers.length; other++) {
            then.offers[other] = set >> other & 1;
        }
        then = counted(then, n);
        return land.lords.get(lord).joy * then.bendsOf[lord] - (now.purses[lord] - then.purses[lord]);
    }

    private Now counted(Now then, int n) {
        for (int i = 0; i < n; i++) {
            pass(then);
        }
        return then;
    }

    private static int time(int[] runs) {
        int time = runs.length;
        for (int column = 0; column + 1 < runs.length; column++) {
            time += Math.abs(runs[column] - runs[column + 1]);
        }
        return time;
    }

    int barge() {
        return land == null ? -1 : time(now.runs);
    }

    int cuts() {
        if (land == null) {
            return -1;
        }
        int best = -1;
        int least = time(now.runs);
        for (int column = 1; column < land.columns - 1; column++) {
            int[] runs = now.runs.clone();
            runs[column] = (runs[column - 1] + runs[column + 1]) / 2;
            if (time(runs) < least) {
                least = time(runs);
                best = column;
            }
        }
        return best;
    }

    int dream(int column) {
        if (land == null || column != -1 && !isColumn(column)) {
            return -1;
        }
        Now best = null;
        int most = -1;
        Now course = now.copy();
        course.runs = new int[land.columns];
        for (boolean more = true; more; more = nextCourse(course.runs)) {
            int pays = 0;
            for (int c = 0; c < land.columns; c++) {
                pays += isCourse(course.runs) && bent(course, c) ? pay(now, c) : 0;
            }
            if (pays > most && isCourse(course.runs)) {
                most = pays;
                best = course.copy();
            }
        }
        return column == -1 ? most : best.runs[column];
    }

    private boolean isCourse(int[] runs) {
        for (int c = 0; c + 1 < runs.length; c++) {
            if (Math.abs(runs[c] - runs[c + 1]) > land.reach) {
                return false;
            }
        }
        return true;
    }

    private boolean nextCourse(int[] runs) {
        for (int c = runs.length - 1; c >= 0; c--) {
            if (++runs[c] < land.rows) {
                return true;
            }
            runs[c] = 0;
        }
        return false;
    }

    int see() {
        List<Integer> told = takeTape();
        List<int[]> rows = new ArrayList<>();
        boolean good = land != null && !told.isEmpty() && told.size() % 3 == 0 && told.size() <= 48;
        for (int i = 0; good && i < told.size(); i += 3) {
            good = told.get(i) <= 30 && isCell(told.get(i + 1), told.get(i + 2));
            rows.add(new int[] {told.get(i), told.get(i + 1), told.get(i + 2)});
        }
        if (!good) {
            return refuse(1);
        }
        seen = rows;
        return rows.size();
    }

    private Now from(int column, int row) {
        Now other = now.copy();
        other.runs[column] = row;
        return other;
    }

    int ran(int column) {
        if (!isColumn(column)) {
            return -1;
        }
        int bits = 0;
        for (int row = 0; row < land.rows; row++) {
            boolean all = true;
            for (int[] one : seen) {
                all = all && comes(one[0], 0, 30) && behind(from(column, row), one[0]).runs[one[1]] == one[2];
            }
            bits += all ? 1 << row : 0;
        }
        return bits;
    }

    int tells(int column, int what) {
        if (!isColumn(column) || ran(column) == 0 || what < 0 || what > 1) {
            return -1;
        }
        int best = -1;
        int fewest = 99;
        for (int n = 1; comes(n, 1, 30); n++) {
            Map<Integer, Integer> left = new HashMap<>();
            for (int row = 0; row < land.rows; row++) {
                if ((ran(column) & 1 << row) != 0) {
                    left.merge(behind(from(column, row), n).runs[column], 1, Integer::sum);
                }
            }
            int most = left.values().stream().mapToInt(count -> count).max().orElse(0);
            if (most < fewest) {
                fewest = most;
                best = n;
            }
        }
        return best == -1 ? -1 : what == 0 ? best : fewest;
    }

    private void act() {
        acts.add(now.copy());
        if (acts.size() > 20) {
            acts.remove(0);
        }
    }

    int plant(int column, int row) {
        if (!isCell(column, row) || now.willows[column][row] == 9) {
            return refuse(2);
        }
        act();
        return ++now.willows[column][row];
    }

    boolean offer(int lord, int on) {
        if (!isLord(lord) || on != 0 && on != 1 || now.offers[lord] == on) {
            refuse(2);
            return false;
        }
        act();
        now.offers[lord] = on;
        return true;
    }

    boolean cut(int column) {
        if (!isColumn(column) || column == 0 || column == land.columns - 1
            || (now.runs[column - 1] + now.runs[column + 1]) / 2 == now.runs[column]) {
            refuse(2);
            return false;
        }
        act();
        now.runs[column] = (now.runs[column - 1] + now.runs[column + 1]) / 2;
        return true;
    }

    int seasons(int n) {
        if (!comes(n, 1, 100)) {
            return refuse(3);
        }
        act();
        int paid = 0;
        for (int i = 0; i < n; i++) {
            paid += pass(now);
        }
        return paid;
    }

    private long draw(int m) {
        seed = (1103515245L * seed + 12345) % (1L << 31);
        return seed / 64 % m;
    }

    int chance(int n) {
        if (!comes(n, 1, 100)) {
            return refuse(3);
        }
        act();
        int spates = 0;
        for (int i = 0; i < n; i++) {
            if (draw(100) < land.spate) {
                spates++;
                int column = (int) draw(land.columns);
                int row = now.runs[column] + (draw(2) == 0 ? -1 : 1);
                now.runs[column] = row >= 0 && row < land.rows ? row : now.runs[column];
            }
            pass(now);
        }
        return spates;
    }

    boolean undo() {
        if (acts.isEmpty()) {
            refuse(4);
            return false;
        }
        now = acts.remove(acts.size() - 1);
        return true;
    }

    boolean seed(int told) {
        if (told < 0) {
            refuse(5);
            return false;
        }
        seed = told;
        return true;
    }

    long ask() {
        List<Integer> text = takeTape();
        if (land == null) {
            return NOTHING;
        }
        fault = 0;
        faultPlace = -1;
        try {
            return answer(text);
        } catch (Fault found) {
            fault = found.kind;
            faultPlace = found.place;
            return NOTHING;
        }
    }

    private long answer(List<Integer> text) {
        Reading reading = new Reading(text, ASK_WORDS, true);
        String kind = reading.token;
        boolean tests = Set.of("first", "last", "often").contains(kind);
        if (!tests && !Set.of("total", "most", "least").contains(kind)) {
            throw new Fault(1, reading.at);
        }
        reading.next();
        Value value = tests ? reading.test(0) : reading.sum(0);
        if (!reading.token.isEmpty()) {
            throw new Fault(1, reading.at);
        }
        List<Long> values = new ArrayList<>();
        for (int lord = 0; lord < land.lords.size(); lord++) {
            int number = lord;
            values.add(value.by((word, argument) -> asked(number, word, argument)));
        }
        return switch (kind) {
            case "first" -> values.indexOf(1L);
            case "last" -> values.lastIndexOf(1L);
            case "most" -> values.stream().mapToLong(one -> one).max().orElse(0);
            case "least" -> values.stream().mapToLong(one -> one).min().orElse(0);
            default -> values.stream().mapToLong(one -> one).sum();
        };
    }

    private long asked(int number, String word, long argument) {
        Lord lord = land.lords.get(number);
        boolean there = argument >= 0 && argument < land.columns;
        return switch (word) {
            case "number" -> number;
            case "from" -> lord.from;
            case "to" -> lord.to;
            case "pays" -> lord.pays;
            case "joy" -> lord.joy;
            case "purse" -> now.purses[number];
            case "offers" -> now.offers[number];
            case "bends" -> bends(now, lord.from, lord.to);
            case "season" -> now.season;
            case "row" -> there ? now.runs[(int) argument] : -1;
            default -> there ? turn(now, (int) argument) : -1;
        };
    }

    static int sealOf(List<Integer> bytes) {
        int c = 179;
        for (int one : bytes) {
            c = (3 * c + one) % 251;
        }
        return c;
    }

    List<Integer> imageOfNow() {
        List<Integer> bytes = new ArrayList<>(List.of(now.season / 256, now.season % 256,
            now.fund / 65536, now.fund / 256 % 256, now.fund % 256));
        for (int row : now.runs) {
            bytes.add(row);
        }
        for (int c = 0; c < now.willows.length; c++) {
            for (int r = 0; r < now.willows[c].length; r++) {
                bytes.add(now.willows[c][r]);
                bytes.add(now.ever[c][r]);
            }
        }
        for (int lord = 0; lord < now.offers.length; lord++) {
            bytes.addAll(List.of(now.offers[lord], now.purses[lord] / 256, now.purses[lord] % 256));
        }
        bytes.add(sealOf(bytes));
        return bytes;
    }

    int image() {
        latestImage = imageOfNow();
        return latestImage.size();
    }

    int octet(int k) {
        return k >= 0 && k < latestImage.size() ? latestImage.get(k) : -1;
    }

    boolean on() {
        List<Integer> bytes = takeTape();
        if (land == null || bytes.size() != imageOfNow().size()
            || sealOf(bytes.subList(0, bytes.size() - 1)) != bytes.get(bytes.size() - 1)) {
            refuse(5);
            return false;
        }
        Now told = now.copy();
        told.kept.clear();
        told.season = bytes.get(0) * 256 + bytes.get(1);
        told.fund = bytes.get(2) * 65536 + bytes.get(3) * 256 + bytes.get(4);
        boolean good = told.season <= 999 && told.fund <= 999999;
        int at = 5;
        for (int c = 0; c < land.columns; c++) {
            told.runs[c] = bytes.get(at++);
            good = good && told.runs[c] < land.rows;
        }
        for (int c = 0; c < land.columns; c++) {
            for (int r = 0; r < land.rows; r++) {
                told.willows[c][r] = bytes.get(at++);
                told.ever[c][r] = bytes.get(at++);
                good = good && told.willows[c][r] <= 9 && told.ever[c][r] <= 99;
            }
        }
        for (int lord = 0; lord < told.offers.length; lord++) {
            told.offers[lord] = bytes.get(at);
            told.purses[lord] = bytes.get(at + 1) * 256 + bytes.get(at + 2);
            good = good && told.offers[lord] <= 1 && told.purses[lord] <= 999;
            at += 3;
        }
        if (!good) {
            refuse(5);
            return false;
        }
        now = told;
        acts.clear();
        return true;
    }

    int status(int what) {
        return what >= 0 && what <= 5 ? refused[what] : -1;
    }

    int columns() {
        return land == null ? 0 : land.columns;
    }

    int rows() {
        return land == null ? 0 : land.rows;
    }

    /** Where the river comes to behind n SEASONS from a row of a column, for making rows that can be SEEN. */
    int comesTo(int column, int row, int n, int of) {
        return behind(from(column, row), n).runs[of];
    }

    int season() {
        return now.season;
    }
}
