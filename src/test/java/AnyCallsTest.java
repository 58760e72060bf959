import java.util.Random;

/** No call throws or fails to end, whatever its arguments and the state; the same calls give the same answers. */
public final class AnyCallsTest {
    private static final String[] PIECES = {"valley ", "by ", "reach ", "runs ", "soil ", "willow ", "lord ", "from ", "to ",
        "pays ", "joy ", "purse ", "eats ", "bend ", "spate ", "column ", "row ", "turn ", "season ", "roots ", "pay ",
        "ever ", "before ", "behind ", "number ", "offers ", "bends ", "or ", "and ", "not ", "all ", "min", "max", "first ",
        "last ", "often ", "total ", "most ", "least ", "abc ", "0 ", "1 ", "2 ", "3 ", "9 ", "99", "12345", "(", ")", "[",
        "]", "+", "-", "*", "/", "<", ">", "=", ",", ";", ";", "\n", "\u00e9", "\0", "Q", "_"};
    private static final String GOOD = "valley 6 by 5 reach 2;runs 1 3;runs 4 2;soil 2 2 0;soil 1 2 1;spate 40;"
        + "willow 2 2;lord ab from 0 to 4 pays 4 joy 9 purse 300;lord c from 3 to 5 pays 9 joy 2 purse 99;"
        + "eats pay+turn*2-soil-roots*2-ever/3;bend turn>1 or not [column<2 and before=behind];";
    private static final int[] EDGES = {Integer.MIN_VALUE, -1000000, -2, -1, 0, 1, 2, 3, 4, 5, 7, 8, 9, 10, 19, 20, 21, 29, 30,
        31, 39, 40, 59, 60, 61, 99, 100, 101, 999, 1599, 1600, 1601, Integer.MAX_VALUE - 1, Integer.MAX_VALUE};

    public static void main(String[] args) {
        for (int i = 0; i < 300; i++) {
            Random one = new Random(i);
            Random two = new Random(i);
            BentRiver x = new BentRiver();
            BentRiver y = new BentRiver();
            for (int k = 0; k < 300; k++) {
                Check.due("call " + k + " of run " + i, call(x, one), call(y, two));
            }
        }
        Check.finish();
    }

    private static int number(Random random) {
        int kind = random.nextInt(8);
        return kind < 6 ? random.nextInt(6) : kind == 6 ? EDGES[random.nextInt(EDGES.length)] : random.nextInt();
    }

    private static String text(Random random) {
        StringBuilder text = new StringBuilder(random.nextInt(3) > 0 ? GOOD : "");
        int changes = random.nextInt(4);
        for (int i = 0; i < changes && text.length() > 0; i++) {
            int at = random.nextInt(text.length());
            text.replace(at, Math.min(text.length(), at + random.nextInt(3)), PIECES[random.nextInt(PIECES.length)]);
        }
        int more = random.nextInt(3) == 0 ? random.nextInt(40) : 0;
        for (int i = 0; i < more; i++) {
            text.append(PIECES[random.nextInt(PIECES.length)]);
        }
        return text.toString();
    }

    private static String question(Random random) {
        StringBuilder text = new StringBuilder(PIECES[33 + random.nextInt(6)]);
        for (int i = random.nextInt(9); i > 0; i--) {
            text.append(PIECES[random.nextInt(PIECES.length)]);
        }
        return text.toString();
    }

    private static long call(BentRiver x, Random random) {
        int a = number(random);
        int b = number(random);
        int c = number(random);
        int d = number(random);
        switch (random.nextInt(36)) {
            case 0: return x.feed(a, b, c, d, number(random));
            case 1: return x.end(a) ? 1 : 0;
            case 2: return Check.valley(x, text(random));
            case 3: return x.fault(a);
            case 4: return x.has(a);
            case 5: return x.letter(a, b);
            case 6: return x.column(a, b);
            case 7: return x.cell(a, b, c);
            case 8: return x.eats(a, b);
            case 9: return x.lord(a, b);
            case 10: return x.kept(a, b);
            case 11: return x.later(a, b);
            case 12: return x.sums(a, b);
            case 13: return x.straight();
            case 14: return x.works(a, b, c, d);
            case 15: return x.rest(a);
            case 16: return x.barge();
            case 17: return x.cuts();
            case 18: return x.dream(a);
            case 19: return seen(x, random);
            case 20: return x.ran(a);
            case 21: return x.tells(a, b);
            case 22: return x.plant(a, b);
            case 23: return x.offer(a, b) ? 1 : 0;
            case 24: return x.cut(a) ? 1 : 0;
            case 25: return x.seasons(a);
            case 26: return x.chance(a);
            case 27: return x.undo() ? 1 : 0;
            case 28: return x.seed(a) ? 1 : 0;
            case 29: return Check.ask(x, question(random));
            case 30: return x.image();
            case 31: return x.octet(a);
            case 32: return put(x, random);
            case 33: return x.status(a);
            case 34: return Check.told(x).hashCode();
            default: return x.on() ? 1 : 0;
        }
    }

    private static long seen(BentRiver x, Random random) {
        int[] bytes = new int[random.nextInt(10)];
        for (int i = 0; i < bytes.length; i++) {
            bytes[i] = random.nextInt(random.nextInt(5) == 0 ? 256 : 4);
        }
        Check.feed(x, bytes);
        return x.see();
    }

    private static long put(BentRiver x, Random random) {
        int[] bytes = Check.image(x);
        for (int i = random.nextInt(4); i > 0; i--) {
            bytes[random.nextInt(bytes.length)] = random.nextInt(random.nextBoolean() ? 256 : 5);
        }
        return Check.on(x, random.nextInt(5) > 0 ? Check.sealed(bytes) : bytes) ? 1 : 0;
    }
}
