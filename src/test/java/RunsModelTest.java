import java.util.ArrayList;
import java.util.List;
import java.util.Random;

/** Long runs of all calls, acts and refusals among them, on one object each, against a second telling of the document. */
public final class RunsModelTest {
    private static final int RUNS = 400;
    private static final int CALLS = 512;
    private static final String[] ASKED = {"number", "from", "to", "pays", "joy", "purse", "offers", "bends", "season"};
    private static final String[] EATEN = {"pay", "turn", "soil", "roots", "ever", "row", "column", "season"};
    private static final String[] BENT = {"turn", "before", "behind", "row", "column", "season"};
    private static final int[] EDGES = {Integer.MIN_VALUE, -2, -1, 0, 1, 2, 3, 4, 5, 6, 7, 8, 9, 10, 11, 20, 21, 30, 31, 39, 40,
        59, 60, 61, 99, 100, 101, Integer.MAX_VALUE};
    private static final String[] CALLED = {"feed", "end", "valley", "fault", "has", "letter", "column", "cell", "eats", "lord",
        "kept", "later", "sums", "straight", "works", "rest", "barge", "cuts", "dream", "see", "ran", "tells", "plant", "offer",
        "cut", "seasons", "chance", "undo", "seed", "ask", "image", "octet", "on", "status"};

    private final Random random;
    private final BentRiver x = new BentRiver();
    private final Telling y = new Telling();
    private final StringBuilder told = new StringBuilder();
    private int calls = 0;

    private RunsModelTest(int seed) {
        random = new Random(seed);
    }

    public static void main(String[] args) {
        int runs = args.length > 0 ? Integer.parseInt(args[0]) : RUNS;
        int first = args.length > 1 ? Integer.parseInt(args[1]) : 0;
        int[] given = new int[CALLED.length];
        int[] none = new int[CALLED.length];
        for (int i = first; i < first + runs; i++) {
            RunsModelTest run = new RunsModelTest(i);
            int wrong = Check.wrong();
            while (run.calls < CALLS - 90 && Check.wrong() == wrong) {
                int call = run.random.nextInt(CALLED.length);
                long answer = run.call(CALLED[call]);
                (answer == -1 || answer == BentRiver.NOTHING ? none : given)[call]++;
            }
            if (Check.wrong() != wrong) {
                System.out.println("run " + i + ": " + run.told);
            }
        }
        for (int call = 0; call < CALLED.length; call++) {
            // runs of calls that are always refused, or never, would show nothing
            boolean never = List.of("status", "image").contains(CALLED[call]);
            Check.due(CALLED[call] + " answered, " + given[call], given[call] >= runs / 2, true);
            Check.due(CALLED[call] + " had none, " + none[call], none[call] >= runs / 10 || never, true);
        }
        Check.finish();
    }

    private long due(String call, long got, long want) {
        calls++;
        told.append(call).append(" = ").append(want).append("; ");
        Check.due(call, got, want);
        return want;
    }

    private long due(String call, boolean got, boolean want) {
        due(call, got ? 1 : 0, want ? 1 : 0);
        return want ? 1 : -1;
    }

    private int any(int bound) {
        int kind = random.nextInt(12);
        return kind == 0 ? EDGES[random.nextInt(EDGES.length)] : kind == 1 ? bound : random.nextInt(Math.max(1, bound));
    }

    private void tell(List<Integer> bytes) {
        due("end(0)", x.end(0), y.end(0));
        for (int i = 0; i < bytes.size(); i += 20) {
            int[] five = new int[5];
            for (int k = 0; k < 20; k++) {
                five[k / 4] = five[k / 4] << 8 | (i + k < bytes.size() ? bytes.get(i + k) : random.nextInt(256));
            }
            due("feed", x.feed(five[0], five[1], five[2], five[3], five[4]), y.feed(five));
        }
        due("end(" + bytes.size() + ")", x.end(bytes.size()), y.end(bytes.size()));
    }

    private void tell(String text) {
        told.append('"').append(text).append("\" ");
        List<Integer> bytes = new ArrayList<>();
        for (int i = 0; i < text.length(); i++) {
            bytes.add(text.charAt(i) & 255);
        }
        tell(bytes);
    }

    private long call(String call) {
        int a = any(y.columns());
        int b = any(y.rows());
        switch (call) {
            case "feed": return feed();
            case "end": return due("end", x.end(a * 9), y.end(a * 9));
            case "valley": return valley();
            case "fault": return due("fault " + a % 3, x.fault(a % 3), y.fault(a % 3));
            case "has": return allOf(any(11));
            case "letter": return letter(any(3), any(6));
            case "column": return column(a, any(4));
            case "cell": return cell(a, b, any(3));
            case "eats": return due("eats " + a + " " + b, x.eats(a, b), y.eats(a, b));
            case "lord": return lord(any(3), any(7));
            case "kept": return kept(any(y.has(8)), any(3));
            case "later": return later(a, any(random.nextInt(4) == 0 ? 61 : 9));
            case "sums": return sums(any(random.nextInt(4) == 0 ? 61 : 9), any(3));
            case "straight": return due("straight", x.straight(), y.straight());
            case "works": return works(a, random.nextInt(3) == 0 ? b : y.column(a, 0) + random.nextInt(3) - 1);
            case "rest": return rest(1 + any(random.nextInt(4) == 0 ? 30 : 5));
            case "barge": return due("barge", x.barge(), y.barge());
            case "cuts": return due("cuts", x.cuts(), y.cuts());
            case "dream": return dream(random.nextBoolean() ? -1 : a);
            default: return more(call, a, b);
        }
    }

    private long more(String call, int a, int b) {
        int n = 1 + any(random.nextInt(5) == 0 ? 100 : 6);
        switch (call) {
            case "see": return see();
            case "ran": return due("ran " + a, x.ran(a), y.ran(a));
            case "tells": return tells(a, any(2));
            case "plant": return plant(a, b);
            case "offer": return offer(any(3), any(2));
            case "cut": return due("cut " + a, x.cut(a), y.cut(a));
            case "seasons": return due("seasons " + n, x.seasons(n), y.seasons(n));
            case "chance": return due("chance " + n, x.chance(n), y.chance(n));
            case "undo": return undo();
            case "seed": return seed(random.nextInt());
            case "ask": return ask();
            case "image": return due("image", x.image(), y.image());
            case "octet": return octet(any(60));
            case "on": return on();
            default: return due("status " + a % 7, x.status(a % 7), y.status(a % 7));
        }
    }

    private long feed() {
        int[] n = {random.nextInt(), random.nextInt(), random.nextInt(), random.nextInt(), random.nextInt()};
        int times = random.nextInt(40) == 0 ? 82 : 1;
        long answer = 0;
        for (int i = 0; i < times; i++) {
            answer = due("feed", x.feed(n[0], n[1], n[2], n[3], n[4]), y.feed(n));
        }
        return answer;
    }

    private long allOf(int what) {
        return due("has " + what, x.has(what), y.has(what));
    }

    private long letter(int lord, int k) {
        return due("letter " + lord + " " + k, x.letter(lord, k), y.letter(lord, k));
    }

    private long column(int column, int what) {
        return due("column " + column + " " + what, x.column(column, what), y.column(column, what));
    }

    private long cell(int column, int row, int what) {
        return due("cell " + column + " " + row + " " + what, x.cell(column, row, what), y.cell(column, row, what));
    }

    private long lord(int lord, int what) {
        return due("lord " + lord + " " + what, x.lord(lord, what), y.lord(lord, what));
    }

    private long kept(int k, int what) {
        return due("kept " + k + " " + what, x.kept(k, what), y.kept(k, what));
    }

    private long later(int column, int n) {
        return due("later " + column + " " + n, x.later(column, n), y.later(column, n));
    }

    private long sums(int n, int what) {
        return due("sums " + n + " " + what, x.sums(n, what), y.sums(n, what));
    }

    private long works(int column, int row) {
        int n = 1 + any(random.nextInt(9) == 0 ? 20 : 4);
        int k = Math.max(-1, random.nextInt(5) - 2);
        return due("works " + column + " " + row + " " + n + " " + k, x.works(column, row, n, k), y.works(column, row, n, k));
    }

    private long rest(int n) {
        return due("rest " + n, x.rest(n), y.rest(n));
    }

    private long dream(int column) {
        // trying all courses of a large valley would take too long
        if (Math.pow(y.rows(), y.columns()) > 3000) {
            return 0;
        }
        return due("dream " + column, x.dream(column), y.dream(column));
    }

    private long see() {
        int rows = any(4);
        int wrong = random.nextInt(6);
        List<Integer> bytes = new ArrayList<>();
        if (y.columns() > 0) {
            int column = random.nextInt(y.columns());
            int row = random.nextInt(y.rows());
            for (int i = 0; i < Math.min(rows, 17); i++) {
                int n = random.nextInt(random.nextInt(9) == 0 ? 31 : 5);
                int of = random.nextInt(y.columns());
                bytes.addAll(List.of(n, of, y.season() + n > 999 ? 0 : y.comesTo(column, row, n, of)));
            }
        }
        if (wrong == 0) {
            bytes.add(random.nextInt(256));
        } else if (wrong == 1 && !bytes.isEmpty()) {
            bytes.set(random.nextInt(bytes.size()), random.nextInt(random.nextBoolean() ? 256 : 4));
        }
        told.append(bytes);
        tell(bytes);
        return due("see", x.see(), y.see());
    }

    private long tells(int column, int what) {
        return due("tells " + column + " " + what, x.tells(column, what), y.tells(column, what));
    }

    private long plant(int column, int row) {
        long answer = 0;
        for (int i = random.nextInt(20) == 0 ? 10 : 1; i > 0; i--) {
            answer = due("plant " + column + " " + row, x.plant(column, row), y.plant(column, row));
        }
        return answer;
    }

    private long offer(int lord, int on) {
        return due("offer " + lord + " " + on, x.offer(lord, on), y.offer(lord, on));
    }

    private long undo() {
        long answer = 0;
        for (int i = random.nextInt(12) == 0 ? 21 : 1; i > 0; i--) {
            answer = due("undo", x.undo(), y.undo());
        }
        return answer;
    }

    private long seed(int seed) {
        return due("seed " + seed, x.seed(seed), y.seed(seed));
    }

    private long octet(int k) {
        return due("octet " + k, x.octet(k), y.octet(k));
    }

    private long ask() {
        String kind = List.of("first ", "last ", "often ", "total ", "most ", "least ").get(random.nextInt(6));
        String text = kind + (kind.charAt(0) == 'f' || kind.equals("last ") || kind.charAt(0) == 'o'
            ? test(ASKED, 2) : sum(ASKED, 2));
        tell(spoilt(text));
        return due("ask", x.ask(), y.ask());
    }

    private long on() {
        List<Integer> bytes = y.imageOfNow();
        int lords = y.has(2);
        if (random.nextInt(3) == 0) {
            int season = List.of(0, 1, 900, 960, 990, 998, 999, 1000).get(random.nextInt(8));
            bytes.set(0, season / 256);
            bytes.set(1, season % 256);
        }
        if (random.nextInt(6) == 0) {
            int fund = 999990 + random.nextInt(11);
            bytes.set(2, fund / 65536);
            bytes.set(3, fund / 256 % 256);
            bytes.set(4, fund % 256);
        }
        for (int column = 0; column < y.columns(); column++) {
            bytes.set(5 + column, random.nextInt(40) == 0 ? y.rows() : random.nextInt(y.rows()));
        }
        for (int i = random.nextInt(4); i > 0 && y.columns() > 0; i--) {
            int cell = 5 + y.columns() + 2 * random.nextInt(y.columns() * y.rows());
            bytes.set(cell, random.nextInt(8) == 0 ? 10 : random.nextInt(10));
            bytes.set(cell + 1, random.nextInt(8) == 0 ? 100 : 95 + random.nextInt(5));
        }
        for (int lord = 0; lord < lords && random.nextBoolean(); lord++) {
            int at = bytes.size() - 1 - 3 * (lord + 1);
            int purse = random.nextInt(12) == 0 ? 1000 : random.nextInt(random.nextBoolean() ? 1000 : 20);
            bytes.set(at, random.nextInt(20) == 0 ? 2 : random.nextInt(2));
            bytes.set(at + 1, purse / 256);
            bytes.set(at + 2, purse % 256);
        }
        int last = bytes.size() - 1;
        bytes.set(last, (Telling.sealOf(bytes.subList(0, last)) + (random.nextInt(9) == 0 ? 1 : 0)) & 255);
        if (random.nextInt(20) == 0) {
            bytes.add(0);
        }
        told.append(bytes);
        tell(bytes);
        return due("on", x.on(), y.on());
    }

    private long valley() {
        // a new valley too often would leave no time for many acts
        if (y.columns() > 0 && random.nextInt(3) > 0) {
            return 0;
        }
        tell(spoilt(text()));
        return due("valley", x.valley(), y.valley());
    }

    private String text() {
        int columns = 3 + random.nextInt(random.nextInt(9) == 0 ? 8 : 3);
        int rows = 2 + random.nextInt(random.nextInt(9) == 0 ? 7 : 4);
        StringBuilder text = new StringBuilder("valley " + columns + " by " + rows + " reach " + (1 + random.nextInt(rows)) + ";");
        for (int i = random.nextInt(6); i > 0; i--) {
            text.append("runs ").append(random.nextInt(columns)).append(' ').append(random.nextInt(rows)).append(';');
            text.append("soil ").append(random.nextInt(columns)).append(' ').append(random.nextInt(rows)).append(' ')
                .append(random.nextInt(10)).append("; ");
        }
        for (int i = random.nextInt(4); i > 0; i--) {
            text.append("willow ").append(random.nextInt(columns)).append(' ').append(random.nextInt(rows)).append(";\n");
        }
        for (int i = random.nextInt(random.nextInt(6) == 0 ? 6 : 4); i > 0; i--) {
            int from = random.nextInt(columns);
            text.append("lord ").append(List.of("a", "bo", "first", "total", "zzzzzz", "runner").get(i)).append(" from ").append(from)
                .append(" to ").append(from + random.nextInt(columns - from)).append(" pays ").append(random.nextInt(12))
                .append(" joy ").append(random.nextInt(20)).append(" purse ").append(random.nextInt(300)).append(';');
        }
        if (random.nextInt(3) > 0) {
            text.append("eats ").append(random.nextBoolean() ? "pay+turn*2-soil-roots*3+" : "").append(sum(EATEN, 2)).append(';');
        }
        if (random.nextInt(3) > 0) {
            text.append("bend ").append(test(BENT, 2)).append(';');
        }
        return text.append(random.nextBoolean() ? "spate " + random.nextInt(101) + ";" : "").toString();
    }

    /** Some texts are made wrong somewhere. */
    private String spoilt(String text) {
        if (random.nextInt(4) > 0) {
            return text;
        }
        int at = random.nextInt(text.length() + 1);
        int end = Math.min(text.length(), at + random.nextInt(3));
        String put = List.of("", " ", ";", "(", "7", "12345", "all", "lord to", "not ", "[[[[[[[").get(random.nextInt(10));
        return text.substring(0, at) + put + text.substring(end);
    }

    private String part(String[] words, int deep) {
        int kind = random.nextInt(deep > 0 ? 9 : 6);
        if (words == ASKED && random.nextInt(5) == 0) {
            return (random.nextBoolean() ? "row " : "turn ") + (deep > 0 ? part(words, deep - 1) : random.nextInt(5));
        }
        if (kind < 4) {
            return words[random.nextInt(words.length)];
        }
        if (kind < 6) {
            return "" + random.nextInt(random.nextInt(8) == 0 ? 10000 : 7);
        }
        String inner = sum(words, deep - 1);
        return kind == 6 ? "(" + inner + ")" : (kind == 7 ? "min(" : "max (") + inner + "," + sum(words, deep - 1) + ")";
    }

    private String product(String[] words, int deep) {
        StringBuilder text = new StringBuilder(part(words, deep));
        while (random.nextInt(4) == 0) {
            text.append(random.nextBoolean() ? "*" : "/").append(part(words, deep));
        }
        return text.toString();
    }

    private String sum(String[] words, int deep) {
        StringBuilder text = new StringBuilder(product(words, deep));
        while (random.nextInt(5) < 2) {
            text.append(random.nextBoolean() ? "+" : " - ").append(product(words, deep));
        }
        return text.toString();
    }

    private String fact(String[] words, int deep) {
        int kind = random.nextInt(deep > 0 ? 9 : 6);
        if (kind < 6) {
            return sum(words, deep) + List.of("<", ">", "=").get(random.nextInt(3)) + sum(words, deep);
        }
        return kind == 6 ? "not " + fact(words, deep - 1) : kind == 7 ? "[" + test(words, deep - 1) + "]" : "all";
    }

    private String test(String[] words, int deep) {
        StringBuilder text = new StringBuilder(fact(words, deep));
        while (random.nextInt(3) == 0) {
            text.append(random.nextBoolean() ? " or " : " and ").append(fact(words, deep));
        }
        return text.toString();
    }
}
