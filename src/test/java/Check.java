/** What the tests share: counting wrong answers and feeding texts. */
final class Check {
    private static int wrong = 0;
    private static int answers = 0;

    private Check() {
    }

    static void due(String what, long got, long want) {
        answers++;
        if (got != want) {
            wrong++;
            System.out.println(what + " answered " + got + ", due is " + want);
        }
    }

    static void due(String what, boolean got, boolean want) {
        due(what, got ? 1 : 0, want ? 1 : 0);
    }

    static int answers() {
        return answers;
    }

    static int wrong() {
        return wrong;
    }

    static void finish() {
        System.out.println(answers + " answers, " + wrong + " wrong");
        if (wrong != 0) {
            System.exit(1);
        }
    }

    static void feed(BentRiver x, String text) {
        int[] bytes = new int[text.length()];
        for (int i = 0; i < bytes.length; i++) {
            bytes[i] = text.charAt(i);
        }
        feed(x, bytes);
    }

    static void feed(BentRiver x, int... bytes) {
        x.end(0);
        for (int i = 0; i < bytes.length; i += 20) {
            int[] five = new int[5];
            for (int k = 0; k < 20; k++) {
                five[k / 4] = five[k / 4] << 8 | (i + k < bytes.length ? bytes[i + k] & 255 : 33);
            }
            x.feed(five[0], five[1], five[2], five[3], five[4]);
        }
        x.end(bytes.length);
    }

    static int valley(BentRiver x, String text) {
        feed(x, text);
        return x.valley();
    }

    static BentRiver river(String text) {
        BentRiver x = new BentRiver();
        if (valley(x, text) == BentRiver.NONE) {
            due("a good valley: " + text + " fault " + x.fault(0) + " at " + x.fault(1), 0, 1);
        }
        return x;
    }

    static long ask(BentRiver x, String text) {
        feed(x, text);
        return x.ask();
    }

    static int[] image(BentRiver x) {
        int[] bytes = new int[x.image()];
        for (int i = 0; i < bytes.length; i++) {
            bytes[i] = x.octet(i);
        }
        return bytes;
    }

    /** Puts the last byte right, so that only what was changed ahead of it can be refused. */
    static int[] sealed(int[] bytes) {
        int c = 179;
        for (int i = 0; i < bytes.length - 1; i++) {
            c = (3 * c + bytes[i]) % 251;
        }
        bytes[bytes.length - 1] = c;
        return bytes;
    }

    static boolean on(BentRiver x, int... bytes) {
        feed(x, bytes);
        return x.on();
    }

    /** All that an object tells of its state of now, in one text, for comparing two of them. */
    static String told(BentRiver x) {
        StringBuilder all = new StringBuilder();
        for (int what = 0; what <= 10; what++) {
            all.append(x.has(what)).append(' ');
        }
        for (int k = 0; k < x.has(8); k++) {
            all.append(x.kept(k, 0)).append('/').append(x.kept(k, 1)).append('/').append(x.kept(k, 2)).append(' ');
        }
        int size = x.image();
        for (int k = 0; k < size; k++) {
            all.append(x.octet(k)).append(' ');
        }
        return all.toString();
    }
}
