import java.io.IOException;
import java.lang.reflect.InvocationTargetException;
import java.lang.reflect.Method;
import java.lang.reflect.Modifier;
import java.nio.ByteBuffer;
import java.nio.charset.StandardCharsets;
import java.nio.file.Files;
import java.nio.file.Path;
import java.util.NoSuchElementException;
import java.util.Set;
import java.util.TreeSet;
import java.util.regex.Matcher;
import java.util.regex.Pattern;

/** What README.md says of the class: its first letter, the answers to its longer one, all calls of the face. */
public final class ReadmeTest {
    private static final Pattern ROW = Pattern.compile("(\\w+)\\(([^)]*)\\) +(-?\\d+|true|throws)(?: .*)?");

    public static void main(String[] args) throws IOException, IllegalAccessException {
        String readme = Files.readString(Path.of("README.md"));
        firstLetter();
        PostScripts x = new PostScripts();
        Check.due("places of the letter", tell(x, fence(readme, "letter").replace("\n", "")), 3);
        Set<String> told = new TreeSet<>(Set.of("feed", "letter"));
        for (String row : fence(readme, "answers").split("\n")) {
            Matcher parts = ROW.matcher(row);
            boolean isRow = parts.matches();
            Check.due("a row: " + row, isRow, true);
            if (isRow) {
                told.add(parts.group(1));
                String got = answer(x, parts.group(1), parts.group(2));
                Check.due(row + " <- " + got, got.equals(parts.group(3)), true);
            }
        }
        for (Method method : PostScripts.class.getDeclaredMethods()) {
            if (Modifier.isPublic(method.getModifiers())) {
                Check.due(method.getName() + " is told", told.contains(method.getName()), true);
            }
        }
        Check.end("ReadmeTest");
    }

    private static void firstLetter() {
        PostScripts x = new PostScripts();
        x.feed(0x6c657474, 0x65722077, 0x65742030, 0x3b706c61, 0x63652070);
        x.feed(0x2072616e, 0x6b203120, 0x726f6f6d, 0x20322020, 0x20202020);
        Check.due("the first letter", x.letter(34), 1);
        Check.due("its room", x.place(0, 2), 2);
        Check.due("trouble", x.trouble(), 0);
    }

    private static int tell(PostScripts x, String text) {
        ByteBuffer bytes = ByteBuffer.allocate((text.length() + 19) / 20 * 20);
        bytes.put(text.getBytes(StandardCharsets.ISO_8859_1)).rewind();
        while (bytes.remaining() > 0) {
            x.feed(bytes.getInt(), bytes.getInt(), bytes.getInt(), bytes.getInt(), bytes.getInt());
        }
        return x.letter(text.length());
    }

    private static String fence(String readme, String kind) {
        Matcher block = Pattern.compile("(?s)```" + kind + "\n(.*?)\n```").matcher(readme);
        boolean found = block.find();
        Check.due("README.md has " + kind, found, true);
        return found ? block.group(1) : "";
    }

    private static String answer(PostScripts x, String name, String arguments) throws IllegalAccessException {
        for (Method method : PostScripts.class.getDeclaredMethods()) {
            if (method.getName().equals(name) && Modifier.isPublic(method.getModifiers())) {
                try {
                    return String.valueOf(method.invoke(x, values(method, arguments)));
                } catch (InvocationTargetException e) {
                    return e.getCause() instanceof NoSuchElementException ? "throws" : "throws " + e.getCause();
                }
            }
        }
        return "no such call";
    }

    private static Object[] values(Method method, String arguments) {
        Class<?>[] types = method.getParameterTypes();
        Object[] values = new Object[types.length];
        String[] parts = arguments.split(", *");
        for (int i = 0; i < types.length; i++) {
            values[i] = types[i] == boolean.class ? (Object) Boolean.valueOf(parts[i]) : (Object) Integer.valueOf(parts[i]);
        }
        return values;
    }
}
