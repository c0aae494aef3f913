import java.io.IOException;
import java.lang.reflect.InvocationTargetException;
import java.lang.reflect.Method;
import java.lang.reflect.Modifier;
import java.nio.file.Files;
import java.nio.file.Path;
import java.util.ArrayList;
import java.util.List;
import java.util.regex.Matcher;
import java.util.regex.Pattern;

/** README.md is there, its examples answer as told, it names all calls and tests, and its commands run. */
public final class ReadmeTest {
    private static final Check CHECK = new Check("ReadmeTest");
    private static final Path PAGE = Path.of("README.md");
    private static final Pattern CALL = Pattern.compile("d\\.(\\w+)\\((.*?)\\); *// (-?\\w+)(: .*)?");
    private static final String NEW = "DuelRound d = new DuelRound();";

    public static void main(String[] args) throws IOException, ReflectiveOperationException, InterruptedException {
        CHECK.due("README.md is there", Files.isRegularFile(PAGE), true);
        if (Files.isRegularFile(PAGE)) {
            String page = Files.readString(PAGE);
            examples(blocks(section(page, "Use"), "java"));
            names(page);
            commands(blocks(section(page, "Tests"), "sh"));
        }
        CHECK.end();
    }

    private static String section(String page, String name) {
        Matcher m = Pattern.compile("(?ms)^## " + name + "$(.*?)(?=^## |\\z)").matcher(page);
        boolean found = m.find();
        CHECK.due("README.md has a section " + name, found, true);
        return found ? m.group(1) : "";
    }

    private static List<List<String>> blocks(String section, String language) {
        List<List<String>> blocks = new ArrayList<>();
        Matcher m = Pattern.compile("(?ms)^```" + language + "$\\n(.*?)^```$").matcher(section);
        while (m.find()) {
            blocks.add(List.of(m.group(1).split("\\n")));
        }
        CHECK.due("there are blocks of " + language, !blocks.isEmpty(), true);
        return blocks;
    }

    private static void examples(List<List<String>> blocks) throws ReflectiveOperationException {
        for (List<String> block : blocks) {
            DuelRound d = new DuelRound();
            CHECK.due("an example begins with a new object", block.get(0).equals(NEW), true);
            for (String line : block.subList(1, block.size())) {
                Matcher m = CALL.matcher(line);
                boolean isCall = m.matches();
                CHECK.due("'" + line + "' is a call with its answer", isCall, true);
                if (isCall) {
                    String got = answer(d, m.group(1), m.group(2));
                    CHECK.due("README.md: " + line + " (not " + got + ")", got.equals(m.group(3)), true);
                }
            }
        }
    }

    private static String answer(DuelRound d, String name, String list) throws ReflectiveOperationException {
        String[] words = list.isEmpty() ? new String[0] : list.split(", ");
        Object[] numbers = new Object[words.length];
        Class<?>[] types = new Class<?>[words.length];
        for (int i = 0; i < words.length; i++) {
            numbers[i] = Long.decode(words[i]).intValue();
            types[i] = int.class;
        }
        try {
            return String.valueOf(DuelRound.class.getMethod(name, types).invoke(d, numbers));
        } catch (InvocationTargetException e) {
            return e.getCause().getClass().getSimpleName();
        }
    }

    private static void names(String page) throws IOException {
        for (Method m : DuelRound.class.getDeclaredMethods()) {
            if (Modifier.isPublic(m.getModifiers())) {
                CHECK.due("README.md names " + m.getName() + "()", page.contains("`" + m.getName() + "("), true);
            }
        }
        try (var files = Files.newDirectoryStream(Path.of("src/test/java"), "*Test.java")) {
            for (Path file : files) {
                String name = file.getFileName().toString().replace(".java", "");
                CHECK.due("README.md names " + name, page.contains("`" + name + "`:"), true);
            }
        }
    }

    /** Each line of a block is a command; one that runs all tests runs this one, too, but for its commands. */
    private static void commands(List<List<String>> blocks) throws IOException, InterruptedException {
        if (System.getenv(Checkout.INSIDE) != null) {
            return;
        }
        Checkout checkout = new Checkout();
        checkout.copy("README.md");
        checkout.copy(".ci");
        checkout.copy("src");
        Files.createSymbolicLink(checkout.shared(), Path.of("../shared").toRealPath());
        for (List<String> block : blocks) {
            for (String command : block) {
                int code = checkout.run(command);
                CHECK.due("README.md: '" + command + "'", code, 0);
                if (code != 0) {
                    System.out.println(checkout.output());
                }
            }
        }
        checkout.delete();
    }
}
