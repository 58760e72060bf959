/** A river that is paid by the bend. The promises of the document say what each call answers and changes. */
public final class BentRiver {
    public static final int NONE = -1;
    public static final long NOTHING = -1000000000000000L;

    // Limits of the document.
    private static final int MOST_BYTES = 1600;
    private static final int MOST_STATEMENTS = 80;
    private static final int MOST_COLUMNS = 10;
    private static final int MOST_ROWS = 8;
    private static final int MOST_CELLS = MOST_COLUMNS * MOST_ROWS;
    private static final int MOST_LORDS = 5;
    private static final int MOST_LETTERS = 6;
    private static final int MOST_DIGITS = 4;
    private static final int MOST_OPEN = 6;
    private static final int MOST_WILLOWS = 9;
    private static final int MOST_TIMES = 99;
    private static final int MOST_PURSE = 999;
    private static final int MOST_FUND = 999999;
    private static final int LAST_SEASON = 999;
    private static final int MOST_SUM = 1000000;
    private static final int MOST_AHEAD = 60;
    private static final int MOST_SEEN = 16;
    private static final int MOST_SEEN_AHEAD = 30;
    private static final int MOST_TOLD = 40;
    private static final int MOST_UNDONE = 20;
    private static final int MOST_SEASONS = 100;
    private static final int MOST_IMAGE = 5 + MOST_COLUMNS + 2 * MOST_CELLS + 3 * MOST_LORDS + 1;

    // FAULTS.
    private static final int SPELLING = 1;
    private static final int CANNOT_BE = 2;
    private static final int SAME_NAME = 3;
    private static final int TOO_DEEP = 4;
    private static final int TOO_MANY = 5;

    // What a piece of a text is.
    private static final int NO_MORE = 0;
    private static final int LETTERS = 1;
    private static final int DIGITS = 2;
    private static final int SIGN = 3;
    private static final int WRONG = 4;

    // Where a word may stand: as an OWN WORD, as a PART of eats, of bend, of a QUESTION.
    private static final int OWN = 1;
    private static final int IN_EATS = 2;
    private static final int IN_BEND = 4;
    private static final int IN_QUESTION = 8;

    // Places of what the words of a SUM mean, in a row of facts.
    private static final int AT_COLUMN = 0;
    private static final int AT_ROW = 1;
    private static final int AT_TURN = 2;
    private static final int AT_SEASON = 3;
    private static final int AT_SOIL = 4;
    private static final int AT_ROOTS = 5;
    private static final int AT_PAY = 6;
    private static final int AT_EVER = 7;
    private static final int AT_BEFORE = 8;
    private static final int AT_BEHIND = 9;
    private static final int AT_NUMBER = 10;
    private static final int AT_FROM = 11;
    private static final int AT_TO = 12;
    private static final int AT_PAYS = 13;
    private static final int AT_JOY = 14;
    private static final int AT_PURSE = 15;
    private static final int AT_OFFERS = 16;
    private static final int AT_BENDS = 17;
    private static final int AT_COLUMNS = 18;
    private static final int ROW_OF_FIRST = 19;
    private static final int TURN_OF_FIRST = ROW_OF_FIRST + MOST_COLUMNS;
    private static final int FACTS = TURN_OF_FIRST + MOST_COLUMNS;

    // Steps of a SUM or TEST: numbers stand for themselves, facts from FACT on, the rest is below 0.
    private static final int FACT = 10000;
    private static final int PLUS = -1;
    private static final int MINUS = -2;
    private static final int TIMES = -3;
    private static final int OVER = -4;
    private static final int LESSER = -5;
    private static final int GREATER = -6;
    private static final int BELOW = -7;
    private static final int ABOVE = -8;
    private static final int EQUAL = -9;
    private static final int AND = -10;
    private static final int OR = -11;
    private static final int NOT = -12;
    private static final int ROW_OF = -13;
    private static final int TURN_OF = -14;
    private static final int[] PLAIN_EATS =
        {FACT + AT_PAY, FACT + AT_TURN, PLUS, FACT + AT_SOIL, MINUS, FACT + AT_ROOTS, MINUS};
    private static final int[] PLAIN_BEND = {FACT + AT_TURN, 0, ABOVE};

    // What status() tells of.
    private static final int OF_TAPE = 0;
    private static final int OF_TEXTS = 1;
    private static final int OF_ACTS = 2;
    private static final int OF_SEASONS = 3;
    private static final int OF_UNDO = 4;
    private static final int OF_IMAGES = 5;
    private static final int REFUSALS = 6;

    private static final Word[] WORDS = Word.values();

    private final Text text = new Text();
    private final Question question = new Question();
    private final Grammar grammar = new Grammar(text, question.code);
    private final River now = new River(new Valley());
    private final Past past = new Past();
    private final Forecast forecast = new Forecast(now);
    private final Dream dreamt = new Dream();
    private final byte[] written = new byte[MOST_IMAGE];
    private final int[] bendsKept = new int[LAST_SEASON];
    private final int[] paidKept = new int[LAST_SEASON];
    private final int[] refused = new int[REFUSALS];
    // A text with a FAULT must leave THE VALLEY as it is: it is read into the spare one.
    private Valley spare = new Valley();
    private int writtenBytes = 0;
    private int drawn = 1;

    public BentRiver() {
    }

    public int feed(int a, int b, int c, int d, int e) {
        if (text.length + 20 > MOST_BYTES) {
            return refusal(OF_TAPE);
        }
        text.append(a);
        text.append(b);
        text.append(c);
        text.append(d);
        text.append(e);
        return text.length;
    }

    public boolean end(int n) {
        if (n < 0 || n > text.length) {
            return refuses(OF_TAPE);
        }
        text.length = n;
        return true;
    }

    public int valley() {
        int statements = spare.read(text, grammar);
        text.length = 0;
        if (statements == NONE) {
            return refusal(OF_TEXTS);
        }
        Valley former = now.valley;
        now.begin(spare);
        spare = former;
        past.forget();
        forecast.seenRows = 0;
        return statements;
    }

    public int fault(int what) {
        switch (what) {
            case 0: return text.fault;
            case 1: return text.faultPlace;
            default: return NONE;
        }
    }

    public int has(int what) {
        switch (what) {
            case 0: return now.valley.columns;
            case 1: return now.valley.rows;
            case 2: return now.valley.lords;
            case 3: return now.state.season;
            case 4: return now.state.fund;
            case 5: return now.countBends(0, now.valley.columns - 1);
            case 6: return total(now.state.offers);
            case 7: return total(now.state.willows);
            case 8: return toldAsKept();
            case 9: return forecast.seenRows;
            case 10: return past.count;
            default: return NONE;
        }
    }

    public int letter(int lord, int k) {
        if (!isLord(lord) || k < 0 || k >= MOST_LETTERS) {
            return NONE;
        }
        return now.valley.letters[lord * MOST_LETTERS + k];
    }

    public int column(int column, int what) {
        if (!isColumn(column)) {
            return NONE;
        }
        switch (what) {
            case 0: return now.state.runs[column];
            case 1: return now.turnOf(column);
            case 2: return now.isBend(column) ? 1 : 0;
            case 3: return now.payOf(column);
            default: return NONE;
        }
    }

    public int cell(int column, int row, int what) {
        if (!isCell(column, row)) {
            return NONE;
        }
        int cell = column * MOST_ROWS + row;
        switch (what) {
            case 0: return now.valley.soils[cell];
            case 1: return now.state.willows[cell];
            case 2: return now.state.times[cell];
            default: return NONE;
        }
    }

    public long eats(int column, int row) {
        return isCell(column, row) ? now.sumOfEats(column, row) : NOTHING;
    }

    public int lord(int lord, int what) {
        if (!isLord(lord)) {
            return NONE;
        }
        Valley valley = now.valley;
        switch (what) {
            case 0: return valley.from[lord];
            case 1: return valley.to[lord];
            case 2: return valley.pays[lord];
            case 3: return valley.joys[lord];
            case 4: return now.state.purses[lord];
            case 5: return now.state.offers[lord];
            case 6: return now.countBends(valley.from[lord], valley.to[lord]);
            default: return NONE;
        }
    }

    public int kept(int k, int what) {
        if (k < 0 || k >= toldAsKept()) {
            return NONE;
        }
        int index = now.state.kept - toldAsKept() + k;
        switch (what) {
            // Seasons follow one another, so the number of each is known from that of the last.
            case 0: return now.state.season - now.state.kept + index;
            case 1: return bendsKept[index];
            case 2: return paidKept[index];
            default: return NONE;
        }
    }

    public int later(int column, int n) {
        if (!isColumn(column) || !comes(n, 0, MOST_AHEAD)) {
            return NONE;
        }
        return forecast.behind(n).state.runs[column];
    }

    public int sums(int n, int what) {
        if (!isValley() || !comes(n, 0, MOST_AHEAD) || what < 0 || what > 2) {
            return NONE;
        }
        River ahead = forecast.behind(n);
        switch (what) {
            case 0: return ahead.countBends(0, now.valley.columns - 1);
            case 1: return ahead.state.fund;
            default: return total(ahead.state.purses);
        }
    }

    public int straight() {
        return isValley() ? forecast.firstStraight() : NONE;
    }

    public int works(int column, int row, int n, int k) {
        if (!isCell(column, row) || !comes(n, 1, 20)) {
            return NONE;
        }
        int fewest = forecast.fewestWillows(column, row, n);
        if (k == NONE) {
            return fewest;
        }
        if (k < 0 || k >= fewest) {
            return NONE;
        }
        return k == 0 ? forecast.firstWillow : forecast.secondWillow;
    }

    public int rest(int n) {
        return isValley() && comes(n, 1, 30) ? forecast.setAtRest(n) : NONE;
    }

    public int barge() {
        return isValley() ? now.bargeTime() : NONE;
    }

    public int cuts() {
        return isValley() ? forecast.bestCut() : NONE;
    }

    public int dream(int column) {
        if (!isValley() || (column != NONE && !isColumn(column))) {
            return NONE;
        }
        int pays = dreamt.find(now);
        return column == NONE ? pays : dreamt.course[column];
    }

    public int see() {
        int length = text.length;
        text.length = 0;
        if (!isValley() || !forecast.sees(text.bytes, length)) {
            return refusal(OF_TEXTS);
        }
        return forecast.seenRows;
    }

    public int ran(int column) {
        return isColumn(column) ? forecast.rowsBySeen(column) : NONE;
    }

    public int tells(int column, int what) {
        if (!isColumn(column) || what < 0 || what > 1) {
            return NONE;
        }
        if (!forecast.findTelling(column, forecast.rowsBySeen(column))) {
            return NONE;
        }
        return what == 0 ? forecast.tellingSeason : forecast.tellingLeft;
    }

    public int plant(int column, int row) {
        int cell = column * MOST_ROWS + row;
        if (!isCell(column, row) || now.state.willows[cell] >= MOST_WILLOWS) {
            return refusal(OF_ACTS);
        }
        past.remember(now.state);
        now.state.willows[cell]++;
        return now.state.willows[cell];
    }

    public boolean offer(int lord, int on) {
        if (!isLord(lord) || on < 0 || on > 1 || now.state.offers[lord] == on) {
            return refuses(OF_ACTS);
        }
        past.remember(now.state);
        now.state.offers[lord] = on;
        return true;
    }

    public boolean cut(int column) {
        if (!isColumn(column) || !now.canCut(column)) {
            return refuses(OF_ACTS);
        }
        past.remember(now.state);
        now.state.runs[column] = now.halfWay(column);
        return true;
    }

    public int seasons(int n) {
        if (!isValley() || !comes(n, 1, MOST_SEASONS)) {
            return refusal(OF_SEASONS);
        }
        past.remember(now.state);
        int paid = 0;
        for (int i = 0; i < n; i++) {
            paid += passAndKeep();
        }
        return paid;
    }

    public int chance(int n) {
        if (!isValley() || !comes(n, 1, MOST_SEASONS)) {
            return refusal(OF_SEASONS);
        }
        past.remember(now.state);
        int spates = 0;
        for (int i = 0; i < n; i++) {
            if (draw(100) < now.valley.spate) {
                spates++;
                int column = draw(now.valley.columns);
                now.push(column, draw(2));
            }
            passAndKeep();
        }
        return spates;
    }

    public boolean undo() {
        if (!past.recall(now.state)) {
            return refuses(OF_UNDO);
        }
        return true;
    }

    public boolean seed(int seed) {
        if (seed < 0) {
            return refuses(OF_IMAGES);
        }
        drawn = seed;
        return true;
    }

    public long ask() {
        if (!isValley()) {
            text.length = 0;
            return NOTHING;
        }
        boolean asked = question.read(text, grammar);
        text.length = 0;
        return asked ? question.answer(now) : NOTHING;
    }

    public int image() {
        writtenBytes = now.state.write(written, now.valley);
        return writtenBytes;
    }

    public int octet(int k) {
        return k >= 0 && k < writtenBytes ? written[k] & 255 : NONE;
    }

    public boolean on() {
        int length = text.length;
        text.length = 0;
        // The state ahead is only a scratch: what is no image must not touch the one of now.
        State told = forecast.ahead.state;
        if (!isValley() || !told.read(text.bytes, length, now.valley)) {
            return refuses(OF_IMAGES);
        }
        now.state.copy(told);
        past.forget();
        return true;
    }

    public int status(int what) {
        return what >= 0 && what < REFUSALS ? refused[what] : NONE;
    }

    private int refusal(int what) {
        refused[what]++;
        return NONE;
    }

    private boolean refuses(int what) {
        refused[what]++;
        return false;
    }

    private boolean isValley() {
        return now.valley.columns > 0;
    }

    private boolean isColumn(int column) {
        return column >= 0 && column < now.valley.columns;
    }

    private boolean isCell(int column, int row) {
        return isColumn(column) && row >= 0 && row < now.valley.rows;
    }

    private boolean isLord(int lord) {
        return lord >= 0 && lord < now.valley.lords;
    }

    private boolean comes(int n, int least, int most) {
        return n >= least && n <= most && n <= LAST_SEASON - now.state.season;
    }

    private int toldAsKept() {
        return Math.min(now.state.kept, MOST_TOLD);
    }

    private int passAndKeep() {
        int paid = now.pass();
        int index = now.state.kept;
        if (index < LAST_SEASON) {
            bendsKept[index] = now.bendsPassed;
            paidKept[index] = paid;
            now.state.kept++;
        }
        return paid;
    }

    private int draw(int m) {
        drawn = (int) ((1103515245L * drawn + 12345L) & 0x7fffffffL);
        return m > 0 ? drawn / 64 % m : 0;
    }

    private static int total(int[] numbers) {
        int sum = 0;
        for (int i = 0; i < numbers.length; i++) {
            sum += numbers[i];
        }
        return sum;
    }

    /** The words of valleys and questions. */
    private enum Word {
        VALLEY("valley", OWN, 0), BY("by", OWN, 0), REACH("reach", OWN, 0), RUNS("runs", OWN, 0),
        SOIL("soil", OWN | IN_EATS, AT_SOIL), WILLOW("willow", OWN, 0), LORD("lord", OWN, 0),
        FROM("from", OWN | IN_QUESTION, AT_FROM), TO("to", OWN | IN_QUESTION, AT_TO),
        PAYS("pays", OWN | IN_QUESTION, AT_PAYS), JOY("joy", OWN | IN_QUESTION, AT_JOY),
        PURSE("purse", OWN | IN_QUESTION, AT_PURSE), EATS("eats", OWN, 0), BEND("bend", OWN, 0),
        SPATE("spate", OWN, 0), COLUMN("column", OWN | IN_EATS | IN_BEND, AT_COLUMN),
        ROW("row", OWN | IN_EATS | IN_BEND, AT_ROW),
        TURN("turn", OWN | IN_EATS | IN_BEND, AT_TURN),
        SEASON("season", OWN | IN_EATS | IN_BEND | IN_QUESTION, AT_SEASON),
        ROOTS("roots", OWN | IN_EATS, AT_ROOTS), PAY("pay", OWN | IN_EATS, AT_PAY),
        EVER("ever", OWN | IN_EATS, AT_EVER), BEFORE("before", OWN | IN_BEND, AT_BEFORE),
        BEHIND("behind", OWN | IN_BEND, AT_BEHIND),
        NUMBER("number", OWN | IN_QUESTION, AT_NUMBER),
        OFFERS("offers", OWN | IN_QUESTION, AT_OFFERS),
        BENDS("bends", OWN | IN_QUESTION, AT_BENDS), OR("or", OWN, 0), AND("and", OWN, 0),
        NOT("not", OWN, 0), ALL("all", OWN, 0), MIN("min", OWN, 0), MAX("max", OWN, 0),
        FIRST("first", 0, 0), LAST("last", 0, 0), OFTEN("often", 0, 0), TOTAL("total", 0, 0),
        MOST("most", 0, 0), LEAST("least", 0, 0);

        final String spelling;
        final int places;
        final int fact;

        Word(String spelling, int places, int fact) {
            this.spelling = spelling;
            this.places = places;
            this.fact = fact;
        }

        boolean standsIn(int place) {
            return (places & place) != 0;
        }
    }

    /** The tape, read piece by piece: a word, a number or a sign at a time, with the first FAULT found. */
    private static final class Text {
        final byte[] bytes = new byte[MOST_BYTES];
        int length = 0;
        int kind = NO_MORE;
        int place = 0;
        int end = 0;
        Word word = null;
        int fault = 0;
        int faultPlace = NONE;

        void append(int number) {
            for (int shift = 24; shift >= 0 && length < MOST_BYTES; shift -= 8) {
                bytes[length] = (byte) (number >>> shift);
                length++;
            }
        }

        void begin() {
            fault = 0;
            faultPlace = NONE;
            kind = NO_MORE;
            end = 0;
            step();
        }

        void step() {
            boolean behindWord = kind == LETTERS || kind == DIGITS;
            place = end;
            while (place < length && (bytes[place] == 10 || bytes[place] == 32)) {
                place++;
            }
            boolean side = place == end && behindWord;
            kind = kindAt(place);
            end = place;
            while (end < length && kindAt(end) == kind && (kind != SIGN || end == place)) {
                end++;
            }
            word = kind == LETTERS ? wordThere() : null;
            if (side && (kind == LETTERS || kind == DIGITS)) {
                kind = WRONG;
            }
        }

        private int kindAt(int at) {
            if (at >= length) {
                return NO_MORE;
            }
            int sign = bytes[at];
            if (sign >= 'a' && sign <= 'z') {
                return LETTERS;
            }
            return sign >= '0' && sign <= '9' ? DIGITS : SIGN;
        }

        private Word wordThere() {
            for (int i = 0; i < WORDS.length; i++) {
                String spelling = WORDS[i].spelling;
                int same = 0;
                while (same < spelling.length() && place + same < end
                    && bytes[place + same] == spelling.charAt(same)) {
                    same++;
                }
                if (same == spelling.length() && place + same == end) {
                    return WORDS[i];
                }
            }
            return null;
        }

        /** The first FAULT counts; no piece behind it is taken any more, so that reading comes to its end. */
        void fail(int what, int where) {
            if (fault == 0) {
                fault = what;
                faultPlace = where;
            }
            kind = WRONG;
            word = null;
            end = length;
        }

        boolean isSign(char sign) {
            return kind == SIGN && place < length && bytes[place] == sign;
        }

        boolean isWord(Word wanted) {
            return kind == LETTERS && word == wanted;
        }

        boolean isFact(int where) {
            return kind == LETTERS && word != null && word.standsIn(where);
        }

        boolean takesWord(Word wanted) {
            if (!isWord(wanted)) {
                return false;
            }
            step();
            return true;
        }

        void needsSign(char sign) {
            if (isSign(sign)) {
                step();
            } else {
                fail(SPELLING, place);
            }
        }

        void needsWord(Word wanted) {
            if (isWord(wanted)) {
                step();
            } else {
                fail(SPELLING, place);
            }
        }

        /** The number there; with a FAULT the least one, which is always a safe index. */
        int takesNumber(int least, int most) {
            if (kind != DIGITS) {
                fail(SPELLING, place);
                return least;
            }
            if (end - place > MOST_DIGITS) {
                fail(SPELLING, place + MOST_DIGITS);
                return least;
            }
            int number = 0;
            for (int i = place; i < end; i++) {
                number = number * 10 + bytes[i] - '0';
            }
            if (number < least || number > most) {
                fail(CANNOT_BE, place);
                return least;
            }
            step();
            return number;
        }
    }

    /** A SUM or a TEST as steps over a stack: each PART puts a number on it, each sign joins the upper two. */
    private static final class Code {
        // At most six are open at once; each holds back at most six numbers (or, and, a sign, min, +, *).
        private static final int MOST_WAITING = 64;

        private final int[] steps = new int[MOST_BYTES];
        private final int[] stack = new int[MOST_WAITING];
        private int size = 0;

        void clear() {
            size = 0;
        }

        void put(int step) {
            if (size < MOST_BYTES) {
                steps[size] = step;
                size++;
            }
        }

        void set(int[] plain) {
            clear();
            for (int i = 0; i < plain.length; i++) {
                put(plain[i]);
            }
        }

        int value(int[] facts) {
            int top = 0;
            for (int i = 0; i < size; i++) {
                int step = steps[i];
                if (step >= 0 && top < MOST_WAITING) {
                    stack[top] = step < FACT ? step : factAt(facts, step - FACT);
                    top++;
                } else if (step <= NOT && top >= 1) {
                    stack[top - 1] = changed(step, stack[top - 1], facts);
                } else if (step < 0 && top >= 2) {
                    top--;
                    long number = joined(step, stack[top - 1], stack[top]);
                    stack[top - 1] = (int) Math.max(-MOST_SUM, Math.min(number, MOST_SUM));
                }
            }
            return top > 0 ? stack[0] : 0;
        }

        private static int factAt(int[] facts, int index) {
            return index < facts.length ? facts[index] : 0;
        }

        private static int changed(int step, int number, int[] facts) {
            if (step == NOT) {
                return 1 - number;
            }
            if (number < 0 || number >= facts[AT_COLUMNS] || number >= MOST_COLUMNS) {
                return NONE;
            }
            return facts[(step == ROW_OF ? ROW_OF_FIRST : TURN_OF_FIRST) + number];
        }

        private static long joined(int step, long left, long right) {
            switch (step) {
                case PLUS: return left + right;
                case MINUS: return left - right;
                case TIMES: return left * right;
                case OVER:
                    // The machine rounds towards 0, which is above where the quotient is below 0.
                    boolean above = right != 0 && left % right != 0 && left < 0 != right < 0;
                    return right == 0 ? 0 : left / right - (above ? 1 : 0);
                case LESSER: return left < right ? left : right;
                case GREATER: return left > right ? left : right;
                case BELOW: return left < right ? 1 : 0;
                case ABOVE: return left > right ? 1 : 0;
                case EQUAL: return left == right ? 1 : 0;
                case AND: return left & right;
                default: return left | right;
            }
        }
    }

    /** Reads SUMS and TESTS. Each method is told how many of ( [ not row turn are open around it. */
    private static final class Grammar {
        private final Text text;
        private Code code;
        private int where = 0;

        Grammar(Text text, Code code) {
            this.text = text;
            this.code = code;
        }

        void readSum(Code into, int place) {
            into.clear();
            code = into;
            where = place;
            sum(0);
        }

        void readTest(Code into, int place) {
            into.clear();
            code = into;
            where = place;
            test(0);
        }

        private boolean opens(int open) {
            if (open >= MOST_OPEN) {
                text.fail(TOO_DEEP, text.place);
                return false;
            }
            text.step();
            return true;
        }

        private void test(int open) {
            both(open);
            for (int i = 0; i < MOST_BYTES && text.takesWord(Word.OR); i++) {
                both(open);
                code.put(OR);
            }
        }

        private void both(int open) {
            truth(open);
            for (int i = 0; i < MOST_BYTES && text.takesWord(Word.AND); i++) {
                truth(open);
                code.put(AND);
            }
        }

        private void truth(int open) {
            if (text.isWord(Word.NOT)) {
                if (opens(open)) {
                    truth(open + 1);
                    code.put(NOT);
                }
            } else if (text.isSign('[')) {
                if (opens(open)) {
                    test(open + 1);
                    text.needsSign(']');
                }
            } else if (text.takesWord(Word.ALL)) {
                code.put(1);
            } else {
                comparison(open);
            }
        }

        private void comparison(int open) {
            sum(open);
            int step = text.isSign('<') ? BELOW : text.isSign('>') ? ABOVE : text.isSign('=') ? EQUAL : 0;
            if (step == 0) {
                text.fail(SPELLING, text.place);
                return;
            }
            text.step();
            sum(open);
            code.put(step);
        }

        private void sum(int open) {
            product(open);
            for (int i = 0; i < MOST_BYTES && (text.isSign('+') || text.isSign('-')); i++) {
                int step = text.isSign('+') ? PLUS : MINUS;
                text.step();
                product(open);
                code.put(step);
            }
        }

        private void product(int open) {
            part(open);
            for (int i = 0; i < MOST_BYTES && (text.isSign('*') || text.isSign('/')); i++) {
                int step = text.isSign('*') ? TIMES : OVER;
                text.step();
                part(open);
                code.put(step);
            }
        }

        private void part(int open) {
            if (text.kind == DIGITS) {
                code.put(text.takesNumber(0, FACT - 1));
            } else if (text.isSign('(')) {
                if (opens(open)) {
                    sum(open + 1);
                    text.needsSign(')');
                }
            } else if (text.takesWord(Word.MIN)) {
                pair(open, LESSER);
            } else if (text.takesWord(Word.MAX)) {
                pair(open, GREATER);
            } else if (text.isFact(where)) {
                code.put(FACT + text.word.fact);
                text.step();
            } else if (where == IN_QUESTION && (text.isWord(Word.ROW) || text.isWord(Word.TURN))) {
                ofColumn(open, text.isWord(Word.ROW) ? ROW_OF : TURN_OF);
            } else {
                text.fail(SPELLING, text.place);
            }
        }

        private void pair(int open, int step) {
            if (!text.isSign('(')) {
                text.fail(SPELLING, text.place);
            } else if (opens(open)) {
                sum(open + 1);
                text.needsSign(',');
                sum(open + 1);
                text.needsSign(')');
                code.put(step);
            }
        }

        private void ofColumn(int open, int step) {
            if (opens(open)) {
                part(open + 1);
                code.put(step);
            }
        }
    }

    /** What the text of a valley tells; without columns it is none. */
    private static final class Valley {
        int columns = 0;
        int rows = 0;
        int reach = 0;
        int lords = 0;
        int spate = 0;
        final int[] runs = new int[MOST_COLUMNS];
        final int[] soils = new int[MOST_CELLS];
        final int[] willows = new int[MOST_CELLS];
        final int[] letters = new int[MOST_LORDS * MOST_LETTERS];
        final int[] from = new int[MOST_LORDS];
        final int[] to = new int[MOST_LORDS];
        final int[] pays = new int[MOST_LORDS];
        final int[] joys = new int[MOST_LORDS];
        final int[] purses = new int[MOST_LORDS];
        final Code eats = new Code();
        final Code bend = new Code();
        private boolean eatsTold = false;
        private boolean bendTold = false;

        /** How many STATEMENTS the text has; NONE with a FAULT. */
        int read(Text text, Grammar grammar) {
            clear();
            text.begin();
            int statements = 0;
            while (statements <= MOST_STATEMENTS && text.fault == 0 && text.kind != NO_MORE) {
                if (statements == MOST_STATEMENTS) {
                    text.fail(TOO_MANY, text.place);
                } else if (statements == 0) {
                    readSize(text);
                } else {
                    readStatement(text, grammar);
                }
                text.needsSign(';');
                statements++;
            }
            if (statements == 0) {
                text.fail(SPELLING, text.length);
            }
            return text.fault == 0 ? statements : NONE;
        }

        private void clear() {
            lords = 0;
            spate = 0;
            for (int i = 0; i < MOST_COLUMNS; i++) {
                runs[i] = 0;
            }
            for (int i = 0; i < MOST_CELLS; i++) {
                soils[i] = 5;
                willows[i] = 0;
            }
            for (int i = 0; i < MOST_LORDS; i++) {
                purses[i] = 0;
            }
            eats.set(PLAIN_EATS);
            bend.set(PLAIN_BEND);
            eatsTold = false;
            bendTold = false;
        }

        private void readSize(Text text) {
            text.needsWord(Word.VALLEY);
            columns = text.takesNumber(3, MOST_COLUMNS);
            text.needsWord(Word.BY);
            rows = text.takesNumber(2, MOST_ROWS);
            text.needsWord(Word.REACH);
            reach = text.takesNumber(1, 7);
        }

        private void readStatement(Text text, Grammar grammar) {
            if (text.takesWord(Word.RUNS)) {
                int column = text.takesNumber(0, columns - 1);
                runs[column] = text.takesNumber(0, rows - 1);
            } else if (text.takesWord(Word.SOIL)) {
                int column = text.takesNumber(0, columns - 1);
                int row = text.takesNumber(0, rows - 1);
                soils[column * MOST_ROWS + row] = text.takesNumber(0, 9);
            } else if (text.takesWord(Word.WILLOW)) {
                readWillow(text);
            } else if (text.takesWord(Word.SPATE)) {
                spate = text.takesNumber(0, 100);
            } else if (text.isWord(Word.LORD)) {
                readLord(text);
            } else if (text.isWord(Word.EATS)) {
                if (isFirst(text, eatsTold)) {
                    eatsTold = true;
                    grammar.readSum(eats, IN_EATS);
                }
            } else if (text.isWord(Word.BEND)) {
                if (isFirst(text, bendTold)) {
                    bendTold = true;
                    grammar.readTest(bend, IN_BEND);
                }
            } else {
                text.fail(SPELLING, text.place);
            }
        }

        private void readWillow(Text text) {
            int column = text.takesNumber(0, columns - 1);
            int place = text.place;
            int cell = column * MOST_ROWS + text.takesNumber(0, rows - 1);
            if (willows[cell] >= MOST_WILLOWS) {
                text.fail(CANNOT_BE, place);
                return;
            }
            willows[cell]++;
        }

        private void readLord(Text text) {
            if (lords >= MOST_LORDS) {
                text.fail(TOO_MANY, text.place);
                return;
            }
            text.step();
            readName(text);
            text.needsWord(Word.FROM);
            from[lords] = text.takesNumber(0, columns - 1);
            text.needsWord(Word.TO);
            to[lords] = text.takesNumber(from[lords], columns - 1);
            text.needsWord(Word.PAYS);
            pays[lords] = text.takesNumber(0, 99);
            text.needsWord(Word.JOY);
            joys[lords] = text.takesNumber(0, 99);
            text.needsWord(Word.PURSE);
            purses[lords] = text.takesNumber(0, MOST_PURSE);
            lords++;
        }

        private void readName(Text text) {
            int size = text.end - text.place;
            if (text.kind != LETTERS || text.isFact(OWN)) {
                text.fail(SPELLING, text.place);
                return;
            }
            if (size > MOST_LETTERS) {
                text.fail(SPELLING, text.place + MOST_LETTERS);
                return;
            }
            for (int i = 0; i < MOST_LETTERS; i++) {
                letters[lords * MOST_LETTERS + i] = i < size ? text.bytes[text.place + i] - 'a' + 1 : 0;
            }
            if (isNameTaken()) {
                text.fail(SAME_NAME, text.place);
                return;
            }
            text.step();
        }

        private boolean isNameTaken() {
            for (int other = 0; other < lords; other++) {
                int same = 0;
                for (int i = 0; i < MOST_LETTERS; i++) {
                    if (letters[other * MOST_LETTERS + i] == letters[lords * MOST_LETTERS + i]) {
                        same++;
                    }
                }
                if (same == MOST_LETTERS) {
                    return true;
                }
            }
            return false;
        }

        private static boolean isFirst(Text text, boolean told) {
            if (told) {
                text.fail(TOO_MANY, text.place);
                return false;
            }
            text.step();
            return true;
        }
    }

    /** What acts and seasons change. CELLS stand at 8 times their column and their row. */
    private static final class State {
        int season = 0;
        int fund = 0;
        int kept = 0;
        final int[] runs = new int[MOST_COLUMNS];
        final int[] willows = new int[MOST_CELLS];
        final int[] times = new int[MOST_CELLS];
        final int[] offers = new int[MOST_LORDS];
        final int[] purses = new int[MOST_LORDS];

        void begin(Valley valley) {
            season = 0;
            fund = 0;
            kept = 0;
            for (int i = 0; i < MOST_COLUMNS; i++) {
                runs[i] = valley.runs[i];
            }
            for (int i = 0; i < MOST_CELLS; i++) {
                willows[i] = valley.willows[i];
                times[i] = 0;
            }
            for (int i = 0; i < MOST_LORDS; i++) {
                offers[i] = i < valley.lords ? 1 : 0;
                purses[i] = valley.purses[i];
            }
        }

        void copy(State other) {
            season = other.season;
            fund = other.fund;
            kept = other.kept;
            System.arraycopy(other.runs, 0, runs, 0, MOST_COLUMNS);
            System.arraycopy(other.willows, 0, willows, 0, MOST_CELLS);
            System.arraycopy(other.times, 0, times, 0, MOST_CELLS);
            System.arraycopy(other.offers, 0, offers, 0, MOST_LORDS);
            System.arraycopy(other.purses, 0, purses, 0, MOST_LORDS);
        }

        private static int sizeOfImage(Valley valley) {
            return 5 + valley.columns + 2 * valley.columns * valley.rows + 3 * valley.lords + 1;
        }

        int write(byte[] image, Valley valley) {
            int at = writeNumber(image, 0, 2, season);
            at = writeNumber(image, at, 3, fund);
            for (int column = 0; column < valley.columns; column++) {
                at = writeNumber(image, at, 1, runs[column]);
            }
            for (int column = 0; column < valley.columns; column++) {
                for (int row = 0; row < valley.rows; row++) {
                    at = writeNumber(image, at, 1, willows[column * MOST_ROWS + row]);
                    at = writeNumber(image, at, 1, times[column * MOST_ROWS + row]);
                }
            }
            for (int lord = 0; lord < valley.lords; lord++) {
                at = writeNumber(image, at, 1, offers[lord]);
                at = writeNumber(image, at, 2, purses[lord]);
            }
            return writeNumber(image, at, 1, check(image, at));
        }

        private static int writeNumber(byte[] image, int at, int size, int number) {
            for (int i = 0; i < size && at + i < image.length; i++) {
                image[at + i] = (byte) (number >>> 8 * (size - 1 - i));
            }
            return at + size;
        }

        private static int check(byte[] image, int size) {
            int sum = 179;
            for (int i = 0; i < size && i < image.length; i++) {
                sum = (3 * sum + (image[i] & 255)) % 251;
            }
            return sum;
        }

        /** Whether the bytes are AN IMAGE of the valley; if not, what this state is then means nothing. */
        boolean read(byte[] image, int length, Valley valley) {
            int size = sizeOfImage(valley);
            if (length != size || readNumber(image, size - 1, 1) != check(image, size - 1)) {
                return false;
            }
            begin(valley);
            season = readNumber(image, 0, 2);
            fund = readNumber(image, 2, 3);
            boolean good = season <= LAST_SEASON && fund <= MOST_FUND;
            int at = 5;
            for (int column = 0; column < valley.columns; column++) {
                runs[column] = readNumber(image, at, 1);
                good = good && runs[column] < valley.rows;
                at++;
            }
            return good && readCells(image, at, valley)
                && readLords(image, at + 2 * valley.columns * valley.rows, valley);
        }

        private boolean readCells(byte[] image, int start, Valley valley) {
            boolean good = true;
            int at = start;
            for (int column = 0; column < valley.columns; column++) {
                for (int row = 0; row < valley.rows; row++) {
                    int cell = column * MOST_ROWS + row;
                    willows[cell] = readNumber(image, at, 1);
                    times[cell] = readNumber(image, at + 1, 1);
                    good = good && willows[cell] <= MOST_WILLOWS && times[cell] <= MOST_TIMES;
                    at += 2;
                }
            }
            return good;
        }

        private boolean readLords(byte[] image, int start, Valley valley) {
            boolean good = true;
            for (int lord = 0; lord < valley.lords; lord++) {
                offers[lord] = readNumber(image, start + 3 * lord, 1);
                purses[lord] = readNumber(image, start + 3 * lord + 1, 2);
                good = good && offers[lord] <= 1 && purses[lord] <= MOST_PURSE;
            }
            return good;
        }

        private static int readNumber(byte[] image, int at, int size) {
            int number = 0;
            for (int i = 0; i < size && at + i < image.length; i++) {
                number = number * 256 + (image[at + i] & 255);
            }
            return number;
        }
    }

    /** A valley and a state of it, with what is so in that state and how a SEASON changes it. */
    private static final class River {
        Valley valley;
        final State state = new State();
        // The CELLS whose SUM was asked for since this was cleared: no other willow can have mattered.
        final boolean[] asked = new boolean[MOST_CELLS];
        // BENDS in the columns of each LORD, SEASON after SEASON, since this was cleared.
        final int[] bendsOfLords = new int[MOST_LORDS];
        int bendsPassed = 0;
        private final int[] facts = new int[FACTS];

        River(Valley valley) {
            this.valley = valley;
        }

        void begin(Valley told) {
            valley = told;
            state.begin(told);
        }

        void follow(River other) {
            valley = other.valley;
            state.copy(other.state);
            for (int i = 0; i < MOST_CELLS; i++) {
                asked[i] = false;
            }
            for (int i = 0; i < MOST_LORDS; i++) {
                bendsOfLords[i] = 0;
            }
        }

        boolean isInner(int column) {
            return column > 0 && column < valley.columns - 1;
        }

        int turnOf(int column) {
            if (!isInner(column)) {
                return 0;
            }
            return Math.abs(state.runs[column - 1] + state.runs[column + 1] - 2 * state.runs[column]);
        }

        int offerOf(int lord) {
            boolean can = state.offers[lord] == 1 && state.purses[lord] >= valley.pays[lord];
            return can ? valley.pays[lord] : 0;
        }

        boolean isIn(int lord, int column) {
            return valley.from[lord] <= column && column <= valley.to[lord];
        }

        int payOf(int column) {
            int sum = 0;
            for (int lord = 0; lord < valley.lords; lord++) {
                if (isIn(lord, column)) {
                    sum += offerOf(lord);
                }
            }
            return sum;
        }

        int sumOfEats(int column, int row) {
            int cell = column * MOST_ROWS + row;
            facts[AT_COLUMN] = column;
            facts[AT_ROW] = row;
            facts[AT_TURN] = turnOf(column);
            facts[AT_SEASON] = state.season;
            facts[AT_SOIL] = valley.soils[cell];
            facts[AT_ROOTS] = state.willows[cell];
            facts[AT_PAY] = payOf(column);
            facts[AT_EVER] = state.times[cell];
            return valley.eats.value(facts);
        }

        boolean isBend(int column) {
            int row = state.runs[column];
            int before = column > 0 ? state.runs[column - 1] : row;
            int behind = column < valley.columns - 1 ? state.runs[column + 1] : row;
            return isBendBy(column, before, row, behind);
        }

        boolean isBendBy(int column, int before, int row, int behind) {
            facts[AT_COLUMN] = column;
            facts[AT_ROW] = row;
            facts[AT_TURN] = isInner(column) ? Math.abs(before + behind - 2 * row) : 0;
            facts[AT_SEASON] = state.season;
            facts[AT_BEFORE] = before;
            facts[AT_BEHIND] = behind;
            return valley.bend.value(facts) != 0;
        }

        int countBends(int first, int last) {
            int count = 0;
            for (int column = first; column <= last; column++) {
                if (isBend(column)) {
                    count++;
                }
            }
            return count;
        }

        /** One SEASON passes: what was paid. */
        int pass() {
            for (int column = 0; column < valley.columns; column++) {
                eatBank(column);
            }
            for (int column = 0; column < valley.columns; column++) {
                int cell = column * MOST_ROWS + state.runs[column];
                state.times[cell] = Math.min(state.times[cell] + 1, MOST_TIMES);
            }
            int paid = 0;
            bendsPassed = 0;
            for (int column = 0; column < valley.columns; column++) {
                if (isBend(column)) {
                    bendsPassed++;
                    paid += collect(column);
                }
            }
            state.fund = Math.min(state.fund + paid, MOST_FUND);
            state.season = Math.min(state.season + 1, LAST_SEASON);
            return paid;
        }

        private void eatBank(int column) {
            int row = state.runs[column];
            int to = row;
            int best = 0;
            for (int next = row - 1; next <= row + 1; next += 2) {
                if (mayGo(column, next)) {
                    asked[column * MOST_ROWS + next] = true;
                    int sum = sumOfEats(column, next);
                    if (sum > best) {
                        best = sum;
                        to = next;
                    }
                }
            }
            state.runs[column] = to;
        }

        private boolean mayGo(int column, int row) {
            if (row < 0 || row >= valley.rows) {
                return false;
            }
            boolean before = column == 0 || Math.abs(state.runs[column - 1] - row) <= valley.reach;
            boolean behind = column == valley.columns - 1
                || Math.abs(state.runs[column + 1] - row) <= valley.reach;
            return before && behind;
        }

        private int collect(int column) {
            int paid = 0;
            for (int lord = 0; lord < valley.lords; lord++) {
                if (isIn(lord, column)) {
                    bendsOfLords[lord]++;
                    int pays = offerOf(lord);
                    state.purses[lord] -= pays;
                    paid += pays;
                }
            }
            return paid;
        }

        void push(int column, int side) {
            int row = state.runs[column] + (side == 0 ? -1 : 1);
            if (row >= 0 && row < valley.rows) {
                state.runs[column] = row;
            }
        }

        int halfWay(int column) {
            return isInner(column)
                ? (state.runs[column - 1] + state.runs[column + 1]) / 2 : state.runs[column];
        }

        boolean canCut(int column) {
            return isInner(column) && halfWay(column) != state.runs[column];
        }

        int bargeTime() {
            int time = valley.columns;
            for (int column = 1; column < valley.columns; column++) {
                time += Math.abs(state.runs[column] - state.runs[column - 1]);
            }
            return time;
        }
    }

    /** The last states that can be had again. */
    private static final class Past {
        int count = 0;
        private int newest = 0;
        private final State[] states = new State[MOST_UNDONE];

        Past() {
            for (int i = 0; i < MOST_UNDONE; i++) {
                states[i] = new State();
            }
        }

        void forget() {
            count = 0;
        }

        void remember(State state) {
            newest = (newest + 1) % MOST_UNDONE;
            states[newest].copy(state);
            count = Math.min(count + 1, MOST_UNDONE);
        }

        boolean recall(State state) {
            if (count == 0) {
                return false;
            }
            state.copy(states[newest]);
            newest = (newest + MOST_UNDONE - 1) % MOST_UNDONE;
            count--;
            return true;
        }
    }

    /** What comes of the state of now, tried out on a river of its own. */
    private static final class Forecast {
        final River ahead;
        int seenRows = 0;
        int firstWillow = NONE;
        int secondWillow = NONE;
        int tellingSeason = 0;
        int tellingLeft = 0;
        private final River now;
        private final int[] seen = new int[3 * MOST_SEEN];
        private final int[] gains = new int[MOST_LORDS << MOST_LORDS];
        private final boolean[] askedWith = new boolean[MOST_CELLS * MOST_CELLS];
        private final int[] rowsAhead = new int[(MOST_SEEN_AHEAD + 1) * MOST_ROWS];
        private final int[] left = new int[MOST_ROWS];

        Forecast(River now) {
            this.now = now;
            ahead = new River(now.valley);
        }

        River behind(int n) {
            ahead.follow(now);
            for (int i = 0; i < n; i++) {
                ahead.pass();
            }
            return ahead;
        }

        int firstStraight() {
            int last = Math.min(MOST_AHEAD, LAST_SEASON - now.state.season);
            ahead.follow(now);
            for (int n = 0; n <= last; n++) {
                if (ahead.countBends(0, ahead.valley.columns - 1) == 0) {
                    return n;
                }
                ahead.pass();
            }
            return NONE;
        }

        int fewestWillows(int column, int row, int n) {
            int target = column * MOST_ROWS + row;
            if (lands(target, n, NONE, NONE)) {
                return 0;
            }
            for (int first = 0; first < MOST_CELLS; first++) {
                if (takesWillows(first, 1)) {
                    if (lands(target, n, first, NONE)) {
                        firstWillow = first;
                        return 1;
                    }
                    rememberAsked(first);
                }
            }
            for (int first = 0; first < MOST_CELLS; first++) {
                for (int second = first; second < MOST_CELLS; second++) {
                    if (takesPair(first, second) && lands(target, n, first, second)) {
                        firstWillow = first;
                        secondWillow = second;
                        return 2;
                    }
                }
            }
            return NONE;
        }

        private void rememberAsked(int first) {
            for (int cell = 0; cell < MOST_CELLS; cell++) {
                askedWith[first * MOST_CELLS + cell] = ahead.asked[cell];
            }
        }

        /** Of two willows each must matter with the other: else all comes as with one alone, which was tried. */
        private boolean takesPair(int first, int second) {
            return takesWillows(first, first == second ? 2 : 1) && takesWillows(second, 1)
                && askedWith[first * MOST_CELLS + second] && askedWith[second * MOST_CELLS + first];
        }

        private boolean takesWillows(int cell, int more) {
            return cell / MOST_ROWS < now.valley.columns && cell % MOST_ROWS < now.valley.rows
                && now.state.willows[cell] + more <= MOST_WILLOWS;
        }

        private boolean lands(int target, int n, int first, int second) {
            ahead.follow(now);
            if (first != NONE) {
                ahead.state.willows[first]++;
            }
            if (second != NONE) {
                ahead.state.willows[second]++;
            }
            for (int i = 0; i < n; i++) {
                ahead.pass();
            }
            return ahead.state.runs[target / MOST_ROWS] == target % MOST_ROWS;
        }

        int setAtRest(int n) {
            int sets = 1 << now.valley.lords;
            for (int set = 0; set < sets; set++) {
                measureGains(set, n);
            }
            int best = NONE;
            for (int set = 0; set < sets; set++) {
                if (isAtRest(set) && (best == NONE || Integer.bitCount(set) < Integer.bitCount(best))) {
                    best = set;
                }
            }
            return best;
        }

        private void measureGains(int set, int n) {
            ahead.follow(now);
            for (int lord = 0; lord < now.valley.lords; lord++) {
                ahead.state.offers[lord] = set >> lord & 1;
            }
            for (int i = 0; i < n; i++) {
                ahead.pass();
            }
            for (int lord = 0; lord < now.valley.lords; lord++) {
                int paid = now.state.purses[lord] - ahead.state.purses[lord];
                gains[set * MOST_LORDS + lord] = now.valley.joys[lord] * ahead.bendsOfLords[lord] - paid;
            }
        }

        private boolean isAtRest(int set) {
            for (int lord = 0; lord < now.valley.lords; lord++) {
                int otherwise = set ^ 1 << lord;
                if (gains[otherwise * MOST_LORDS + lord] > gains[set * MOST_LORDS + lord]) {
                    return false;
                }
            }
            return true;
        }

        int bestCut() {
            int best = NONE;
            int least = now.bargeTime();
            for (int column = 1; column < now.valley.columns - 1; column++) {
                ahead.follow(now);
                ahead.state.runs[column] = now.halfWay(column);
                int time = ahead.bargeTime();
                if (time < least) {
                    least = time;
                    best = column;
                }
            }
            return best;
        }

        boolean sees(byte[] bytes, int length) {
            int rows = length / 3;
            if (length % 3 != 0 || rows < 1 || rows > MOST_SEEN) {
                return false;
            }
            for (int i = 0; i < length; i += 3) {
                if ((bytes[i] & 255) > MOST_SEEN_AHEAD || (bytes[i + 1] & 255) >= now.valley.columns
                    || (bytes[i + 2] & 255) >= now.valley.rows) {
                    return false;
                }
            }
            for (int i = 0; i < length; i++) {
                seen[i] = bytes[i];
            }
            seenRows = rows;
            return true;
        }

        /** Rows in which the river can run now in a column, by what is SEEN, as bits. */
        int rowsBySeen(int column) {
            int last = 0;
            for (int i = 0; i < seenRows; i++) {
                last = Math.max(last, seen[3 * i]);
            }
            if (last > LAST_SEASON - now.state.season) {
                return 0;
            }
            int bits = 0;
            for (int row = 0; row < now.valley.rows; row++) {
                if (fits(column, row, last)) {
                    bits |= 1 << row;
                }
            }
            return bits;
        }

        private boolean fits(int column, int row, int last) {
            ahead.follow(now);
            ahead.state.runs[column] = row;
            for (int n = 0; n <= last; n++) {
                for (int i = 0; i < seenRows; i++) {
                    if (seen[3 * i] == n && ahead.state.runs[seen[3 * i + 1]] != seen[3 * i + 2]) {
                        return false;
                    }
                }
                ahead.pass();
            }
            return true;
        }

        boolean findTelling(int column, int rows) {
            int last = Math.min(MOST_SEEN_AHEAD, LAST_SEASON - now.state.season);
            if (rows == 0 || last < 1) {
                return false;
            }
            for (int row = 0; row < now.valley.rows; row++) {
                followRow(column, row, last);
            }
            tellingLeft = MOST_ROWS + 1;
            for (int n = 1; n <= last; n++) {
                int most = mostLeft(rows, n);
                if (most < tellingLeft) {
                    tellingLeft = most;
                    tellingSeason = n;
                }
            }
            return true;
        }

        private void followRow(int column, int row, int last) {
            ahead.follow(now);
            ahead.state.runs[column] = row;
            for (int n = 1; n <= last; n++) {
                ahead.pass();
                rowsAhead[n * MOST_ROWS + row] = ahead.state.runs[column];
            }
        }

        private int mostLeft(int rows, int n) {
            for (int i = 0; i < MOST_ROWS; i++) {
                left[i] = 0;
            }
            int most = 0;
            for (int row = 0; row < now.valley.rows; row++) {
                if ((rows >> row & 1) == 1) {
                    int there = rowsAhead[n * MOST_ROWS + row];
                    left[there]++;
                    most = Math.max(most, left[there]);
                }
            }
            return most;
        }
    }

    /** The COURSE that would pay most: column by column from the last on, for each row and the one before it. */
    private static final class Dream {
        final int[] course = new int[MOST_COLUMNS];
        private final int[] most = new int[MOST_CELLS * MOST_ROWS];
        private final int[] next = new int[MOST_CELLS * MOST_ROWS];

        /** What the DREAM pays; its rows stand in course. */
        int find(River river) {
            Valley valley = river.valley;
            for (int column = valley.columns - 1; column >= 0; column--) {
                int pay = river.payOf(column);
                for (int before = 0; before < valley.rows; before++) {
                    for (int row = 0; row < valley.rows; row++) {
                        look(river, column, before, row, pay);
                    }
                }
            }
            int first = 0;
            for (int row = 1; row < valley.rows; row++) {
                if (most[at(0, row, row)] > most[at(0, first, first)]) {
                    first = row;
                }
            }
            course[0] = first;
            for (int column = 1; column < valley.columns; column++) {
                int before = course[Math.max(column - 2, 0)];
                course[column] = next[at(column - 1, before, course[column - 1])];
            }
            return most[at(0, first, first)];
        }

        private static int at(int column, int before, int row) {
            return (column * MOST_ROWS + before) * MOST_ROWS + row;
        }

        private void look(River river, int column, int before, int row, int pay) {
            int here = at(column, before, row);
            if (column == river.valley.columns - 1) {
                most[here] = river.isBendBy(column, before, row, row) ? pay : 0;
                return;
            }
            most[here] = NONE;
            for (int behind = 0; behind < river.valley.rows; behind++) {
                if (Math.abs(behind - row) <= river.valley.reach) {
                    int pays = (river.isBendBy(column, before, row, behind) ? pay : 0)
                        + most[at(column + 1, row, behind)];
                    if (pays > most[here]) {
                        most[here] = pays;
                        next[here] = behind;
                    }
                }
            }
        }
    }

    /** A QUESTION of all LORDS. */
    private static final class Question {
        final Code code = new Code();
        private final int[] facts = new int[FACTS];
        private Word kind = null;

        boolean read(Text text, Grammar grammar) {
            text.begin();
            kind = text.word;
            boolean asksTest = kind == Word.FIRST || kind == Word.LAST || kind == Word.OFTEN;
            boolean asksSum = kind == Word.TOTAL || kind == Word.MOST || kind == Word.LEAST;
            if (asksTest) {
                text.step();
                grammar.readTest(code, IN_QUESTION);
            } else if (asksSum) {
                text.step();
                grammar.readSum(code, IN_QUESTION);
            }
            if (!asksTest && !asksSum || text.kind != NO_MORE) {
                text.fail(SPELLING, text.place);
            }
            return text.fault == 0;
        }

        long answer(River river) {
            long answer = kind == Word.FIRST || kind == Word.LAST ? NONE : 0;
            for (int lord = 0; lord < river.valley.lords; lord++) {
                answer = withLord(answer, lord, valueFor(river, lord));
            }
            return answer;
        }

        private long withLord(long answer, int lord, int value) {
            if (kind == Word.FIRST) {
                return answer == NONE && value != 0 ? lord : answer;
            }
            if (kind == Word.LAST) {
                return value != 0 ? lord : answer;
            }
            if (kind == Word.MOST) {
                return lord == 0 || value > answer ? value : answer;
            }
            if (kind == Word.LEAST) {
                return lord == 0 || value < answer ? value : answer;
            }
            // Of often the value is 1 or 0, so that it is counted as a total is.
            return answer + value;
        }

        private int valueFor(River river, int lord) {
            Valley valley = river.valley;
            facts[AT_NUMBER] = lord;
            facts[AT_FROM] = valley.from[lord];
            facts[AT_TO] = valley.to[lord];
            facts[AT_PAYS] = valley.pays[lord];
            facts[AT_JOY] = valley.joys[lord];
            facts[AT_PURSE] = river.state.purses[lord];
            facts[AT_OFFERS] = river.state.offers[lord];
            facts[AT_BENDS] = river.countBends(valley.from[lord], valley.to[lord]);
            facts[AT_SEASON] = river.state.season;
            facts[AT_COLUMNS] = valley.columns;
            for (int column = 0; column < valley.columns; column++) {
                facts[ROW_OF_FIRST + column] = river.state.runs[column];
                facts[TURN_OF_FIRST + column] = river.turnOf(column);
            }
            return code.value(facts);
        }
    }
}
