import java.io.IOException;
import java.lang.management.ManagementFactory;
import java.lang.reflect.Field;
import java.lang.reflect.Method;
import java.lang.reflect.Modifier;
import java.nio.file.Files;
import java.nio.file.Path;
import java.util.ArrayList;
import java.util.Arrays;
import java.util.List;
import java.util.Set;
import java.util.TreeSet;
import java.util.regex.Matcher;
import java.util.regex.Pattern;

/** The document's face and those rules of LANGUAGE.md that a text and a look from outside can show. */
public final class LanguageTest {
    private static final Path SOURCE = Path.of("src/main/java/PostScripts.java");
    private static final String[] FACE = {"int feed(int,int,int,int,int)", "int letter(int)", "int fault()", "int where()", "int place(int,int)", "int hand(int,int)",
        "int line(int,int)", "int done(int)", "int stands(int)", "int allDone()", "int ruler()", "int power()", "int doneBy(int,int)", "int changes(int)",
        "int since(int)", "int idle()", "int turn(int)", "int weakest()", "int holds(int,boolean)", "int doneIf(int,int,boolean)", "int wins(int,int)",
        "int winsBy(int,int)", "int outranks(int,int)", "int ring(int)", "int ringAt(int,int)", "int free()", "int top()", "int taken()", "int paid()",
        "int worthOf(int)", "int fits()", "int fitAt(int,int)", "int says(int,int)", "int ask()", "int askLeaves()", "int judge()",
        "int foot(int,boolean,boolean,boolean)", "int rests(int)", "int rest(int)", "long odds(int,boolean)", "long standOdds(int,boolean)", "long mean(boolean)",
        "int thumbs(int,int,int)", "int smudged(int,int)", "int write(int,int,int,boolean,int)", "boolean strike(int)", "int fold(int)", "boolean undo()",
        "int image()", "boolean back(int)", "int led(int)", "int size(int)", "int trouble()"};

    public static void main(String[] args) throws IOException {
        face();
        classes();
        text(Files.readString(SOURCE));
        room();
        Check.end("LanguageTest");
    }

    private static void face() {
        Set<String> open = new TreeSet<>();
        Set<String> names = new TreeSet<>();
        Set<String> hidden = new TreeSet<>();
        for (Method method : PostScripts.class.getDeclaredMethods()) {
            if (Modifier.isPrivate(method.getModifiers())) {
                hidden.add(method.getName());
                continue;
            }
            names.add(method.getName());
            String parameters = String.join(",", Arrays.stream(method.getParameterTypes()).map(Class::getName).toList());
            open.add(method.getReturnType() + " " + method.getName() + "(" + parameters + ")");
            yes("public " + method.getName(), Modifier.isPublic(method.getModifiers()));
        }
        yes("the face " + open, open.equals(new TreeSet<>(List.of(FACE))));
        for (Class<?> inside : PostScripts.class.getDeclaredClasses()) {
            for (Method method : inside.getDeclaredMethods()) {
                hidden.add(method.getName());
            }
        }
        hidden.retainAll(names);
        yes("no private method bears a public one's name: " + hidden, hidden.isEmpty());
        yes("final", Modifier.isFinal(PostScripts.class.getModifiers()));
        Check.due("constructors", PostScripts.class.getConstructors().length, 1);
        Check.due("NONE", PostScripts.NONE, -1);
        for (Field field : PostScripts.class.getDeclaredFields()) {
            yes("field " + field.getName(), Modifier.isPrivate(field.getModifiers()) || field.getName().equals("NONE"));
        }
    }

    private static void classes() {
        List<Class<?>> all = new ArrayList<>(List.of(PostScripts.class.getDeclaredClasses()));
        for (Class<?> inside : all) {
            yes("static " + inside, Modifier.isStatic(inside.getModifiers()));
        }
        all.add(PostScripts.class);
        yes("at most twelve classes", all.size() <= 12);
        for (Class<?> one : all) {
            long fields = Arrays.stream(one.getDeclaredFields()).filter(f -> !Modifier.isStatic(f.getModifiers())).count();
            yes("fields of " + one + ": " + fields, fields <= 20);
            for (Field field : one.getDeclaredFields()) {
                yes("static and final " + field, !Modifier.isStatic(field.getModifiers()) || Modifier.isFinal(field.getModifiers()));
            }
            for (Method method : one.getDeclaredMethods()) {
                yes("parameters of " + method, method.getParameterCount() <= 7);
            }
        }
    }

    private static void text(String source) {
        String code = source.replaceAll("(?s)/\\*.*?\\*/", "").replaceAll("//.*", "");
        String[] banned = {"\\btry\\b", "\\bcatch\\b", "\\bfinally\\b", "\\bsynchronized\\b", "\\bassert\\b", "->", "::", "static \\{", "\\bpackage\\b",
            "\\bSystem\\.(?!arraycopy)", "\\w+Exact\\b", "\\brandom", "\\bThread\\b", "\\bequals\\(", "\\bhashCode\\b", "\\btoString\\b", "\\bdouble\\b", "\\bfloat\\b"};
        for (String word : banned) {
            yes("none of " + word, !Pattern.compile(word).matcher(code).find());
        }
        Matcher imports = Pattern.compile("import ([\\w.]+);").matcher(code);
        while (imports.find()) {
            yes("import " + imports.group(1), Set.of("java.util.Arrays", "java.util.NoSuchElementException").contains(imports.group(1)));
        }
        yes("signs 0 to 127", source.chars().allMatch(c -> c < 128));
        Matcher throwing = Pattern.compile("throw new (\\w+)\\(").matcher(code);
        int thrown = 0;
        while (throwing.find()) {
            thrown++;
            yes("throws " + throwing.group(1), throwing.group(1).equals("NoSuchElementException"));
        }
        Check.due("throws once", thrown, 1);
        int began = -1;
        String[] lines = source.split("\n");
        for (int i = 0; i < lines.length; i++) {
            if (lines[i].matches(" {4}(?: {4})?[^ /*].*\\) (?:throws \\w+ )?\\{")) {
                began = i;
            } else if (began >= 0 && lines[i].matches(" {4}(?: {4})?\\}")) {
                yes("short: " + lines[began].trim(), i - began <= 60);
                began = -1;
            }
        }
    }

    /** No call but one that throws makes an object: all calls of a run share one small room. */
    private static void room() {
        com.sun.management.ThreadMXBean bean = (com.sun.management.ThreadMXBean) ManagementFactory.getThreadMXBean();
        PostScripts x = new PostScripts();
        String text = "letter wet 50;place a rank 1 room 9;place b rank 2 room 9;place c rank 3 room 9;over a c;hand h purse 9;matter m;matter n;"
                + "wrote h a m do inches 1;wrote h b m not inches 1;hidden a;hidden b;hidden c;done m do;bid h a inches 1 pays 1";
        Check.tell(x, text);
        calls(x);
        long thread = Thread.currentThread().getId();
        long before = bean.getThreadAllocatedBytes(thread);
        for (int i = 0; i < 200; i++) {
            calls(x);
        }
        long bytes = bean.getThreadAllocatedBytes(thread) - before;
        yes("bytes made by calls: " + bytes, bytes < 20000);
    }

    private static void calls(PostScripts x) {
        // "letter wet 0;place p", with which no letter is whole: the letter stays.
        x.feed(0x6c657474, 0x65722077, 0x65742030, 0x3b706c61, 0x63652070);
        x.letter(20);
        x.fits();
        x.fitAt(0, 0);
        x.says(0, 0);
        x.ask();
        x.askLeaves();
        x.judge();
        x.wins(0, 4);
        x.winsBy(0, 4);
        x.holds(0, true);
        x.doneIf(0, 0, true);
        x.odds(0, true);
        x.standOdds(0, true);
        x.mean(true);
        x.thumbs(0, 1, 60);
        x.smudged(1, 60);
        x.turn(0);
        x.weakest();
        x.idle();
        x.power();
        x.ruler();
        x.free();
        x.top();
        x.ring(0);
        x.ringAt(0, 1);
        x.taken();
        x.paid();
        x.worthOf(0);
        x.changes(0);
        x.since(0);
        x.place(0, 3);
        x.hand(0, 2);
        x.line(0, 7);
        x.allDone();
        x.write(0, 0, 0, true, 1);
        x.strike(0);
        x.fold(0);
        x.image();
        x.undo();
        x.back(0);
    }

    private static void yes(String what, boolean got) {
        Check.due(what, got, true);
    }
}
