import java.io.IOException;
import java.nio.file.Files;
import java.nio.file.Path;

/** What the tests of boundary cases share: each is held to words of the document, which it quotes. */
final class Edges {
    /** A quotation leaves out what stands between its parts by this sign. */
    private static final String GAP = " ... ";
    private static final String DOCUMENT = document();

    private Edges() {
    }

    private static String document() {
        Path path = Path.of("../shared/DOC.md");
        try {
            return Files.exists(path) ? plain(Files.readString(path)) : "";
        } catch (IOException e) {
            return "";
        }
    }

    private static String plain(String text) {
        return text.replace("`", "").replaceAll("\\s+", " ");
    }

    /** One sentence and the test of its own that it has. */
    static void edge(String words, Runnable test) {
        int from = 0;
        for (String part : words.split(java.util.regex.Pattern.quote(GAP))) {
            int found = DOCUMENT.indexOf(plain(part), from);
            // another wording is no wrong answer of the program, but whoever changes the tests should see it
            if (found < 0 && !DOCUMENT.isEmpty()) {
                System.out.println("  .. not in the document: " + part);
            }
            from = Math.max(found, from);
        }
        int before = Check.answers();
        int wrong = Check.wrong();
        test.run();
        Check.due("answers asked for by: " + words, Check.answers() > before, true);
        if (Check.wrong() > wrong) {
            System.out.println("  .. broken: " + words);
        }
    }

    static void accepted(String text, int statements) {
        BentRiver x = new BentRiver();
        Check.due("valley " + text, Check.valley(x, text), statements);
        Check.due("fault(0) of " + text, x.fault(0), 0);
        Check.due("fault(1) of " + text, x.fault(1), -1);
        Check.due("status(1) of " + text, x.status(1), 0);
    }

    private static String unmarked(String marked) {
        int place = marked.indexOf('|');
        return marked.substring(0, place) + marked.substring(place + 1);
    }

    /** The FAULT's place is marked by | in the text. */
    static void faulty(int kind, String marked) {
        BentRiver x = new BentRiver();
        Check.due("valley " + marked, Check.valley(x, unmarked(marked)), -1);
        Check.due("fault(0) of " + marked, x.fault(0), kind);
        Check.due("fault(1) of " + marked, x.fault(1), marked.indexOf('|'));
    }

    static void asked(BentRiver x, String question, long due) {
        Check.due(question, Check.ask(x, question), due);
        Check.due("fault(0) of " + question, x.fault(0), 0);
        Check.due("fault(1) of " + question, x.fault(1), -1);
    }

    /** The FAULT's place is marked by | in the question. */
    static void wronglyAsked(BentRiver x, int kind, String marked) {
        Check.due(marked, Check.ask(x, unmarked(marked)), BentRiver.NOTHING);
        Check.due("fault(0) of " + marked, x.fault(0), kind);
        Check.due("fault(1) of " + marked, x.fault(1), marked.indexOf('|'));
    }

    static void rows(String what, BentRiver x, int... due) {
        for (int c = 0; c < due.length; c++) {
            Check.due(what + ", row of " + c, x.column(c, 0), due[c]);
        }
    }

    /** The valley, without KEPT seasons, in a SEASON far ahead. */
    static BentRiver inSeason(int season, String text) {
        BentRiver x = Check.river(text);
        int[] bytes = Check.image(x);
        bytes[0] = season >> 8;
        bytes[1] = season & 255;
        Check.due("on() in season " + season, Check.on(x, Check.sealed(bytes)), true);
        return x;
    }

    static int see(BentRiver x, int... bytes) {
        Check.feed(x, bytes);
        return x.see();
    }

    /** A call that is refused: it is counted, and all that is told of the state stays. */
    static void refused(BentRiver x, int status, String call, Runnable made) {
        String told = Check.told(x);
        int[] counts = new int[6];
        for (int what = 0; what < 6; what++) {
            counts[what] = x.status(what) + (what == status ? 1 : 0);
        }
        made.run();
        for (int what = 0; what < 6; what++) {
            Check.due("status(" + what + ") behind " + call, x.status(what), counts[what]);
        }
        Check.due("all stays by " + call, told.equals(Check.told(x)), true);
    }
}
