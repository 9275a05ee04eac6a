import java.nio.charset.StandardCharsets;
import java.util.NoSuchElementException;

/** What the tests share: answers against those due, and texts fed as numbers. */
final class Check {
    private static int checks = 0;
    private static int wrong = 0;
    private static String about = "";

    private Check() {
    }

    /** What the checks that follow are about: told with those that fail. */
    static void about(String words) {
        about = words + ": ";
    }

    static void due(String what, long got, long want) {
        checks++;
        if (got != want) {
            wrong++;
            System.out.println(about + what + " answered " + got + ", due is " + want);
        }
    }

    static void due(String what, boolean got, boolean want) {
        due(what, got ? 1 : 0, want ? 1 : 0);
    }

    /** A call's answer and the trouble behind it. */
    static void refused(PostScripts x, String what, long got, long want, int trouble) {
        due(what, got, want);
        due(what + " trouble", x.trouble(), trouble);
    }

    static void end(String test) {
        System.out.println(test + ": " + checks + " checks, " + wrong + " wrong");
        if (wrong != 0 || checks == 0) {
            System.exit(1);
        }
    }

    static void feed(PostScripts x, String text) {
        byte[] bytes = text.getBytes(StandardCharsets.ISO_8859_1);
        for (int at = 0; at < bytes.length; at += 20) {
            x.feed(four(bytes, at), four(bytes, at + 4), four(bytes, at + 8), four(bytes, at + 12), four(bytes, at + 16));
        }
    }

    private static int four(byte[] bytes, int at) {
        int number = 0;
        for (int i = at; i < at + 4; i++) {
            number = number << 8 | (i < bytes.length ? bytes[i] & 255 : ' ');
        }
        return number;
    }

    static int tell(PostScripts x, String text) {
        feed(x, text);
        return x.letter(text.length());
    }

    static PostScripts told(String text) {
        PostScripts x = new PostScripts();
        int places = tell(x, text);
        if (places < 1) {
            wrong++;
            System.out.println("fault " + x.fault() + " at " + x.where() + " of " + text);
        }
        return x;
    }

    /** A text must have this fault at this place. */
    static void faulty(String text, int fault, int at) {
        PostScripts x = new PostScripts();
        due("letter of <" + text + ">", tell(x, text), -1);
        due("trouble of <" + text + ">", x.trouble(), 4);
        due("fault of <" + text + ">", x.fault(), fault);
        due("where of <" + text + ">", x.where(), at);
    }

    /** The fault must be at the first byte of the text's last token. */
    static void faultyAtLast(String text, int fault) {
        int at = Math.max(text.lastIndexOf(' '), text.lastIndexOf(';')) + 1;
        faulty(text, fault, at);
    }

    /** A text without a fault. */
    static void fine(String text, int places) {
        PostScripts x = new PostScripts();
        due("letter of <" + text + ">", tell(x, text), places);
        due("trouble of <" + text + ">", x.trouble(), 0);
        due("fault of <" + text + ">", x.fault(), 0);
        due("where of <" + text + ">", x.where(), -1);
    }

    static void granted(PostScripts x, String what, long got, long want) {
        refused(x, what, got, want, 0);
    }

    static void refused(PostScripts x, String what, boolean got, int trouble) {
        refused(x, what, got ? 1 : 0, 0, trouble);
    }

    static void granted(PostScripts x, String what, boolean got) {
        refused(x, what, got ? 1 : 0, 1, 0);
    }

    /** A refused call must leave all that can be seen; look goes first and behind it. */
    static void same(String what, String before, String behind) {
        due(what + ": " + before + " became " + behind, before.equals(behind), true);
    }

    /** All that can be seen of the letter, the lines and the acts. */
    static String look(PostScripts x) {
        StringBuilder seen = new StringBuilder();
        for (int what = 0; what <= 11; what++) {
            seen.append(x.size(what)).append(',');
        }
        for (int p = 0; p < x.size(1); p++) {
            seen.append(" p");
            for (int what = 0; what < 6; what++) {
                seen.append(x.place(p, what)).append(',');
            }
        }
        for (int k = 0; k < x.size(5); k++) {
            seen.append(" k");
            for (int what = 0; what < 8; what++) {
                seen.append(x.line(k, what)).append(',');
            }
        }
        return seen.toString();
    }

    static int led(PostScripts x, int i) {
        try {
            return x.led(i);
        } catch (NoSuchElementException e) {
            return -99;
        }
    }
}
