import java.util.ArrayDeque;
import java.util.ArrayList;
import java.util.Deque;
import java.util.HashSet;
import java.util.List;
import java.util.Random;
import java.util.Set;
import java.util.function.IntConsumer;
import java.util.function.IntSupplier;
import java.util.function.ToIntFunction;

/** Random texts, right and wrong ones, against a second reader that keeps a pile of what must still come. */
public final class TextsModelTest {
    private static final int TEXTS = 20000;
    private static final int QUESTIONS = 20000;
    private static final String OWN_WORDS = "valley by reach runs soil willow lord from to pays joy purse eats bend spate column "
        + "row turn season roots pay ever before behind number offers bends or and not all min max";
    private static final Set<String> OWN = Set.of(OWN_WORDS.split(" "));
    private static final Set<String> IN_EATS = Set.of("column", "row", "turn", "season", "soil", "roots", "pay", "ever");
    private static final Set<String> IN_BEND = Set.of("column", "row", "turn", "season", "before", "behind");
    private static final Set<String> IN_QUESTION = Set.of("number", "from", "to", "pays", "joy", "purse", "offers", "bends",
        "season");
    private static final String[] WORDS = (OWN_WORDS + " first last often total most least abc abcdef abcdefg q").split(" ");
    private static final String SIGNS = ";;()[]+-*/<>=,., \n\t0123456789azAZ\u0000\u00e9";
    private static final String[] NUMBERS = {"0", "1", "2", "3", "4", "7", "8", "9", "10", "11", "99", "100", "101", "999", "1000",
        "9999", "0000", "00000", "12345", "99999"};
    private static final String VALLEY = "valley 5 by 4 reach 3;runs 0 1;runs 1 3;runs 2 2;runs 3 3;eats 0;"
        + "lord a from 0 to 2 pays 7 joy 3 purse 20;lord b from 2 to 4 pays 5 joy 99 purse 4;"
        + "lord c from 1 to 1 pays 0 joy 0 purse 999;";

    public static void main(String[] args) {
        int[] kinds = new int[6];
        for (int i = 0; i < TEXTS; i++) {
            Random random = new Random(i);
            valley(changed(random, Say.valley(random)), kinds);
        }
        enough("valleys", kinds, 0, 1, 2, 3, 4, 5);
        int[] asked = new int[6];
        BentRiver x = Check.river(VALLEY);
        x.offer(2, 0);
        x.seasons(3);
        for (int i = 0; i < QUESTIONS; i++) {
            Random random = new Random(i);
            question(x, changed(random, Say.question(random)), asked);
        }
        enough("questions", asked, 0, 1, 4);
        Check.finish();
    }

    /** Random texts are of no use if they never come to one of the FAULTS. */
    private static void enough(String what, int[] kinds, int... wanted) {
        for (int kind : wanted) {
            Check.due(what + " with FAULT " + kind + ", " + kinds[kind], kinds[kind] >= 100, true);
        }
    }

    private static String changed(Random random, String good) {
        StringBuilder text = new StringBuilder(good);
        int changes = random.nextInt(4) == 0 ? 0 : 1 + random.nextInt(2);
        for (int i = 0; i < changes; i++) {
            int at = random.nextInt(text.length() + 1);
            int kind = random.nextInt(7);
            if (kind == 0) {
                text.delete(at, Math.min(text.length(), at + 1 + random.nextInt(3)));
            } else if (kind == 1) {
                text.insert(at, SIGNS.charAt(random.nextInt(SIGNS.length())));
            } else if (kind == 2) {
                text.insert(at, WORDS[random.nextInt(WORDS.length)] + (random.nextBoolean() ? " " : ""));
            } else if (kind == 3 && random.nextInt(4) == 0) {
                text.setLength(at);
            } else if (kind == 4) {
                text.insert(at, Say.one(random, "(", "[", "not ", "((((", "[[[[[[", "not not not not ", "row row row ", "min("));
            } else {
                replaceNumber(random, text, at);
            }
        }
        return text.length() > 1600 ? text.substring(0, 1600) : text.toString();
    }

    private static void replaceNumber(Random random, StringBuilder text, int at) {
        int from = at;
        while (from < text.length() && !Character.isDigit(text.charAt(from))) {
            from++;
        }
        int end = from;
        while (end < text.length() && Character.isDigit(text.charAt(end))) {
            end++;
        }
        text.replace(from, end, NUMBERS[random.nextInt(NUMBERS.length)]);
    }

    private static int[] faultOf(Runnable reading) {
        try {
            reading.run();
            return new int[] {0, -1};
        } catch (Fault fault) {
            return new int[] {fault.kind, fault.place};
        }
    }

    private static void valley(String text, int[] kinds) {
        Reader reader = new Reader(text);
        int[] due = faultOf(reader::valley);
        kinds[due[0]]++;
        BentRiver x = new BentRiver();
        Check.due("valley " + text, Check.valley(x, text), due[0] == 0 ? reader.statements : -1);
        Check.due("fault(0) of " + text, x.fault(0), due[0]);
        Check.due("fault(1) of " + text, x.fault(1), due[1]);
        if (due[0] == 0) {
            told(x, text, reader);
        }
    }

    private static void told(BentRiver x, String text, Reader reader) {
        Check.due("columns", x.has(0), reader.columns);
        Check.due("rows", x.has(1), reader.rows);
        Check.due("lords", x.has(2), reader.names.size());
        String eats = text.matches("(?s).*\\beats\\b.*") ? text.replaceAll("(?s).*\\beats\\b([^;]*);.*", "$1") : "pay+turn-soil-roots";
        String bend = text.matches("(?s).*\\bbend\\b.*") ? text.replaceAll("(?s).*\\bbend\\b([^;]*);.*", "$1") : "turn>0";
        for (int c = 0; c < reader.columns; c++) {
            int column = c;
            int before = x.column(Math.max(c - 1, 0), 0);
            int behind = x.column(Math.min(c + 1, reader.columns - 1), 0);
            Check.due("bend of " + c + " by " + text, x.column(c, 2), Pile.value(bend, null, word -> switch (word) {
                case "column" -> column;
                case "row" -> x.column(column, 0);
                case "turn" -> x.column(column, 1);
                case "before" -> before;
                case "behind" -> behind;
                default -> 0;
            }));
            for (int r = 0; r < reader.rows; r++) {
                int row = r;
                Check.due("eats of " + c + ", " + r + " by " + text, x.eats(c, r), Pile.value(eats, null, word -> switch (word) {
                    case "column" -> column;
                    case "row" -> row;
                    case "turn" -> x.column(column, 1);
                    case "soil" -> x.cell(column, row, 0);
                    case "roots" -> x.cell(column, row, 1);
                    case "pay" -> x.column(column, 3);
                    default -> 0;
                }));
            }
        }
    }

    private static void question(BentRiver x, String text, int[] kinds) {
        Reader reader = new Reader(text);
        int[] due = faultOf(reader::question);
        kinds[due[0]]++;
        long answer = due[0] == 0 ? answer(x, text.trim()) : BentRiver.NOTHING;
        Check.due("ask " + text, Check.ask(x, text), answer);
        Check.due("fault(0) of " + text, x.fault(0), due[0]);
        Check.due("fault(1) of " + text, x.fault(1), due[1]);
    }

    private static long answer(BentRiver x, String text) {
        String kind = text.replaceAll("(?s)^(\\w+).*", "$1");
        String rest = text.substring(kind.length());
        long[] values = new long[3];
        for (int l = 0; l < 3; l++) {
            int lord = l;
            values[l] = Pile.value(rest, x, word -> switch (word) {
                case "number" -> lord;
                case "season" -> x.has(3);
                case "bends" -> x.lord(lord, 6);
                case "offers" -> x.lord(lord, 5);
                default -> x.lord(lord, List.of("from", "to", "pays", "joy", "purse").indexOf(word));
            });
        }
        java.util.stream.LongStream all = java.util.Arrays.stream(values);
        return switch (kind) {
            case "first" -> values[0] == 1 ? 0 : values[1] == 1 ? 1 : values[2] == 1 ? 2 : -1;
            case "last" -> values[2] == 1 ? 2 : values[1] == 1 ? 1 : values[0] == 1 ? 0 : -1;
            case "most" -> all.max().getAsLong();
            case "least" -> all.min().getAsLong();
            default -> all.sum();
        };
    }

    private static final class Fault extends RuntimeException {
        final int kind;
        final int place;

        Fault(int kind, int place) {
            this.kind = kind;
            this.place = place;
        }
    }

    /** Reads with a pile of what must still come; the first FAULT is thrown. */
    private static final class Reader {
        private final String text;
        private final Deque<Runnable> pile = new ArrayDeque<>();
        private int at = 0;
        private boolean behindWord = false;
        private int start = 0;
        private String piece = "";
        private int open = 0;
        private Set<String> facts = Set.of();
        private boolean asks = false;
        private boolean eatsTold = false;
        private boolean bendTold = false;
        private final int[][] willows = new int[10][8];
        int statements = 0;
        int columns = 0;
        int rows = 0;
        final Set<String> names = new HashSet<>();

        Reader(String text) {
            this.text = text;
        }

        void valley() {
            pile.push(this::statement);
            run();
        }

        void question() {
            asks = true;
            facts = IN_QUESTION;
            look();
            boolean test = Set.of("first", "last", "often").contains(piece);
            if (!test && !Set.of("total", "most", "least").contains(piece)) {
                wrong();
            }
            take();
            then(test ? this::test : this::sum, () -> {
                if (!piece.isEmpty()) {
                    wrong();
                }
            });
            run();
        }

        private void run() {
            while (!pile.isEmpty()) {
                Runnable next = pile.pop();
                look();
                next.run();
            }
        }

        private void then(Runnable... items) {
            for (int i = items.length - 1; i >= 0; i--) {
                pile.push(items[i]);
            }
        }

        private static boolean isLetter(char sign) {
            return sign >= 'a' && sign <= 'z';
        }

        private static boolean isDigit(char sign) {
            return sign >= '0' && sign <= '9';
        }

        /** The piece ahead; one that needs a blank and has none is told as a sign that nothing asks for. */
        private void look() {
            start = at;
            while (start < text.length() && " \n".indexOf(text.charAt(start)) >= 0) {
                start++;
            }
            if (start == text.length()) {
                piece = "";
                return;
            }
            char first = text.charAt(start);
            int end = start + 1;
            while (end < text.length() && (isLetter(first) && isLetter(text.charAt(end))
                || isDigit(first) && isDigit(text.charAt(end)))) {
                end++;
            }
            piece = text.substring(start, end);
            if (behindWord && start == at && (isLetter(first) || isDigit(first))) {
                piece = "\t" + piece;
            }
        }

        private void take() {
            at = start + piece.length();
            behindWord = isLetter(piece.charAt(0)) || isDigit(piece.charAt(0));
        }

        private void wrong() {
            throw new Fault(1, start);
        }

        private Runnable only(String wanted) {
            return () -> {
                if (!piece.equals(wanted)) {
                    wrong();
                }
                take();
            };
        }

        private Runnable number(int least, IntSupplier most, IntConsumer use) {
            return () -> {
                if (piece.isEmpty() || !isDigit(piece.charAt(0))) {
                    wrong();
                }
                if (piece.length() > 4) {
                    throw new Fault(1, start + 4);
                }
                int number = Integer.parseInt(piece);
                if (number < least || number > most.getAsInt()) {
                    throw new Fault(2, start);
                }
                use.accept(number);
                take();
            };
        }

        private Runnable number(int least, int most) {
            return number(least, () -> most, number -> { });
        }

        private void statement() {
            if (piece.isEmpty()) {
                if (statements == 0) {
                    wrong();
                }
                return;
            }
            if (statements == 80) {
                throw new Fault(5, start);
            }
            then(statements == 0 ? this::size : this::told, only(";"), () -> {
                statements++;
                then(this::statement);
            });
        }

        private void size() {
            then(only("valley"), number(3, () -> 10, n -> columns = n), only("by"), number(2, () -> 8, n -> rows = n),
                only("reach"), number(1, 7));
        }

        private void told() {
            int[] cell = new int[2];
            Runnable column = number(0, () -> columns - 1, n -> cell[0] = n);
            Runnable row = number(0, () -> rows - 1, n -> cell[1] = n);
            switch (piece) {
                case "runs" -> then(only("runs"), column, row);
                case "soil" -> then(only("soil"), column, row, number(0, 9));
                case "spate" -> then(only("spate"), number(0, 100));
                case "willow" -> then(only("willow"), column, number(0, () -> rows - 1, n -> {
                    willows[cell[0]][n]++;
                    if (willows[cell[0]][n] > 9) {
                        throw new Fault(2, start);
                    }
                }));
                case "lord" -> lord();
                case "eats" -> {
                    once(eatsTold);
                    eatsTold = true;
                    facts = IN_EATS;
                    then(only("eats"), this::sum);
                }
                case "bend" -> {
                    once(bendTold);
                    bendTold = true;
                    facts = IN_BEND;
                    then(only("bend"), this::test);
                }
                default -> wrong();
            }
        }

        private void once(boolean already) {
            if (already) {
                throw new Fault(5, start);
            }
        }

        private void lord() {
            once(names.size() == 5);
            int[] from = new int[1];
            then(only("lord"), this::name, only("from"), number(0, () -> columns - 1, n -> from[0] = n), only("to"), () -> {
                number(from[0], () -> columns - 1, n -> { }).run();
            }, only("pays"), number(0, 99), only("joy"), number(0, 99), only("purse"), number(0, 999));
        }

        private void name() {
            if (piece.isEmpty() || !isLetter(piece.charAt(0)) || OWN.contains(piece)) {
                wrong();
            }
            if (piece.length() > 6) {
                throw new Fault(1, start + 6);
            }
            if (!names.add(piece)) {
                throw new Fault(3, start);
            }
            take();
        }

        private void opens() {
            if (open == 6) {
                throw new Fault(4, start);
            }
            open++;
            take();
        }

        private Runnable closes(String sign) {
            return () -> {
                only(sign).run();
                open--;
            };
        }

        private void test() {
            then(this::fact, () -> {
                if (piece.equals("or") || piece.equals("and")) {
                    take();
                    then(this::test);
                }
            });
        }

        private void fact() {
            if (piece.equals("not")) {
                opens();
                then(this::fact, () -> open--);
            } else if (piece.equals("[")) {
                opens();
                then(this::test, closes("]"));
            } else if (piece.equals("all")) {
                take();
            } else {
                then(this::sum, () -> {
                    if (!Set.of("<", ">", "=").contains(piece)) {
                        wrong();
                    }
                    take();
                }, this::sum);
            }
        }

        private void sum() {
            then(this::part, () -> {
                if (Set.of("+", "-", "*", "/").contains(piece)) {
                    take();
                    then(this::sum);
                }
            });
        }

        private void part() {
            if (!piece.isEmpty() && isDigit(piece.charAt(0))) {
                number(0, 9999).run();
            } else if (piece.equals("(")) {
                opens();
                then(this::sum, closes(")"));
            } else if (piece.equals("min") || piece.equals("max")) {
                take();
                then(() -> {
                    if (!piece.equals("(")) {
                        wrong();
                    }
                    opens();
                }, this::sum, only(","), this::sum, closes(")"));
            } else if (facts.contains(piece)) {
                take();
            } else if (asks && (piece.equals("row") || piece.equals("turn"))) {
                opens();
                then(this::part, () -> open--);
            } else {
                wrong();
            }
        }
    }

    /** Values of right texts by two piles, one of numbers and one of what waits for them. */
    private static final class Pile {
        private final Deque<Long> numbers = new ArrayDeque<>();
        private final Deque<String> waiting = new ArrayDeque<>();
        private final BentRiver river;

        private Pile(BentRiver river) {
            this.river = river;
        }

        static long value(String text, BentRiver river, ToIntFunction<String> words) {
            Pile pile = new Pile(river);
            for (String piece : pieces(text)) {
                pile.take(piece, words);
            }
            while (!pile.waiting.isEmpty()) {
                pile.join();
            }
            return pile.numbers.pop();
        }

        private static List<String> pieces(String text) {
            List<String> all = new ArrayList<>();
            java.util.regex.Matcher matcher = java.util.regex.Pattern.compile("[a-z]+|[0-9]+|[^ \n]").matcher(text);
            while (matcher.find()) {
                all.add(matcher.group());
            }
            return all;
        }

        private static int rank(String sign) {
            return switch (sign) {
                case "or" -> 1;
                case "and" -> 2;
                case "not" -> 3;
                case "<", ">", "=" -> 4;
                case "+", "-" -> 5;
                case "*", "/" -> 6;
                case "row", "turn" -> 7;
                default -> 0;
            };
        }

        private void take(String piece, ToIntFunction<String> words) {
            boolean prefix = piece.equals("not") || river != null && (piece.equals("row") || piece.equals("turn"));
            if (prefix || Set.of("(", "[", "min", "max").contains(piece)) {
                waiting.push(piece);
            } else if (Set.of(")", "]", ",").contains(piece)) {
                close(piece);
            } else if (Character.isDigit(piece.charAt(0))) {
                numbers.push(Long.parseLong(piece));
            } else if (piece.equals("all")) {
                numbers.push(1L);
            } else if (rank(piece) == 0 || rank(piece) == 7) {
                numbers.push((long) words.applyAsInt(piece));
            } else {
                while (!waiting.isEmpty() && rank(waiting.peek()) >= rank(piece)) {
                    join();
                }
                waiting.push(piece);
            }
        }

        private void close(String piece) {
            while (rank(waiting.peek()) > 0) {
                join();
            }
            if (piece.equals(",")) {
                return;
            }
            waiting.pop();
            if (!waiting.isEmpty() && (waiting.peek().equals("min") || waiting.peek().equals("max"))) {
                long right = numbers.pop();
                long left = numbers.pop();
                numbers.push(waiting.pop().equals("min") ? Math.min(left, right) : Math.max(left, right));
            }
        }

        private void join() {
            String sign = waiting.pop();
            long right = numbers.pop();
            if (sign.equals("not")) {
                numbers.push(1 - right);
                return;
            }
            if (rank(sign) == 7) {
                int column = (int) Math.max(-1, Math.min(99, right));
                numbers.push((long) river.column(column, sign.equals("row") ? 0 : 1));
                return;
            }
            long left = numbers.pop();
            long value = switch (sign) {
                case "or" -> Math.max(left, right);
                case "and" -> Math.min(left, right);
                case "<" -> left < right ? 1 : 0;
                case ">" -> left > right ? 1 : 0;
                case "=" -> left == right ? 1 : 0;
                case "+" -> left + right;
                case "-" -> left - right;
                case "*" -> left * right;
                default -> right == 0 ? 0 : Math.floorDiv(left, right);
            };
            numbers.push(Math.max(-1000000, Math.min(1000000, value)));
        }
    }

    /** Random texts, mostly right ones. */
    private static final class Say {
        static String one(Random random, String... of) {
            return of[random.nextInt(of.length)];
        }

        static String valley(Random random) {
            int columns = 3 + random.nextInt(8);
            int rows = 2 + random.nextInt(7);
            StringBuilder text = new StringBuilder("valley " + columns + " by " + rows + " reach " + (1 + random.nextInt(7)) + ";");
            int statements = random.nextInt(30) == 0 ? 77 + random.nextInt(5) : random.nextInt(14);
            int one = random.nextInt(columns);
            for (int i = 0; i < statements && text.length() < 1300; i++) {
                text.append(statement(random, columns, rows, one)).append(one(random, ";", ";", " ;\n", "; "));
            }
            return text.toString();
        }

        private static String statement(Random random, int columns, int rows, int one) {
            String cell = random.nextInt(columns) + " " + random.nextInt(rows);
            switch (random.nextInt(12)) {
                case 0: return "runs " + cell;
                case 1: return "soil " + cell + " " + random.nextInt(10);
                case 2: return "willow " + cell;
                case 3: return "willow " + one + " 0" + (";willow " + one + " 0").repeat(random.nextInt(6));
                case 4: return "spate " + random.nextInt(101);
                case 5:
                case 6:
                case 7:
                    int from = random.nextInt(columns);
                    return "lord " + one(random, "ab", "c", "abcdef", "q", "zz", "first", "b", "d") + " from " + from + " to "
                        + (from + random.nextInt(columns - from)) + " pays " + random.nextInt(100) + " joy " + random.nextInt(100)
                        + " purse " + random.nextInt(1000);
                case 8:
                case 9: return "eats " + sum(random, IN_EATS, 3);
                default: return "bend " + test(random, IN_BEND, 3);
            }
        }

        static String question(Random random) {
            boolean test = random.nextBoolean();
            return one(random, "", " ") + (test ? one(random, "first ", "last ", "often ") + test(random, IN_QUESTION, 4)
                : one(random, "total ", "most ", "least ") + sum(random, IN_QUESTION, 4));
        }

        private static String test(Random random, Set<String> facts, int deep) {
            StringBuilder text = new StringBuilder(fact(random, facts, deep));
            while (random.nextInt(3) == 0) {
                text.append(one(random, " or ", " and ", "\nor ")).append(fact(random, facts, deep));
            }
            return text.toString();
        }

        private static String fact(Random random, Set<String> facts, int deep) {
            if (random.nextInt(25) == 0) {
                int k = 3 + random.nextInt(5);
                return random.nextBoolean() ? "not ".repeat(k) + fact(random, facts, 1) : "[".repeat(k) + "all" + "]".repeat(k);
            }
            switch (random.nextInt(deep > 0 ? 7 : 5)) {
                case 0: return "all";
                case 5: return "not " + fact(random, facts, deep - 1);
                case 6: return "[" + test(random, facts, deep - 1) + "]";
                default: return sum(random, facts, deep) + one(random, "<", " > ", "=") + sum(random, facts, deep);
            }
        }

        private static String sum(Random random, Set<String> facts, int deep) {
            StringBuilder text = new StringBuilder(part(random, facts, deep));
            while (random.nextInt(5) < 2) {
                text.append(one(random, "+", " - ", "*", "/", "-")).append(part(random, facts, deep));
            }
            return text.toString();
        }

        private static String part(Random random, Set<String> facts, int deep) {
            if (random.nextInt(25) == 0) {
                int k = 3 + random.nextInt(5);
                return facts == IN_QUESTION && random.nextBoolean() ? "row ".repeat(k) + part(random, facts, 1)
                    : "(".repeat(k) + part(random, facts, 0) + ")".repeat(k);
            }
            switch (random.nextInt(deep > 0 ? 9 : 6)) {
                case 0:
                case 1: return random.nextInt(10) == 0 ? "9999" : "" + random.nextInt(10);
                case 6: return "(" + sum(random, facts, deep - 1) + ")";
                case 7: return one(random, "min(", "max (") + sum(random, facts, deep - 1) + "," + sum(random, facts, deep - 1) + ")";
                case 8:
                    if (facts == IN_QUESTION) {
                        return one(random, "row ", "turn ") + part(random, facts, deep - 1);
                    }
                    return "7";
                default: return facts.stream().sorted().skip(random.nextInt(facts.size())).findFirst().get();
            }
        }
    }
}
