import java.io.IOException;
import java.lang.reflect.Constructor;
import java.lang.reflect.Field;
import java.lang.reflect.Method;
import java.lang.reflect.Modifier;
import java.nio.file.Files;
import java.nio.file.Path;
import java.util.HashSet;
import java.util.Set;
import java.util.TreeSet;
import java.util.regex.Matcher;
import java.util.regex.Pattern;

/** The public face is the document's and no more, and the source keeps to what LANGUAGE.md can be asked of it. */
public final class FaceTest {
    private static final Check CHECK = new Check("FaceTest");

    private static final String[] METHODS = {
        "int sign(int)", "boolean end(int)", "int round()", "int drawn(int,int)", "int duel(int,int,int)",
        "int beaten(int,int)", "int turn(int,int)", "int join(int)", "int drop(int)", "int set(int,int)",
        "int praised(int,int)", "int within(int)", "int chain(int,int,int)", "int best(int)", "int byWins(int)",
        "int weight(int,int)", "int keeps(int,int)", "int is(int,int)", "int cup(int,int)", "int winner(int)",
        "int judge()", "int judged(int)", "int fewest(int,int)", "int selves()", "int undo()", "boolean keep(int)",
        "boolean again(int)", "int alike(int,int)", "int count(int)"};

    /** A sentence of LANGUAGE.md, then what of the source it rules out (some are ruled out by choice). */
    private static final String[][] RULED_OUT = {
        {"without a package line", "\\bpackage\\b"},
        {"no other public, protected or package-visible member", "\\bprotected\\b"},
        {"no lambda, no method reference", "->", "::"},
        {"Types: int, long, short, byte, char, boolean, double, float", "\\bvar\\b", "\\bObject\\b", "\\bString\\b"},
        {"The library: only what stands here.", "\\bInteger\\.(?!bitCount\\()", "\\bMath\\.(?!(max|min|abs)\\()",
            "\\bSystem\\.(?!arraycopy\\()", "\\bLong\\b", "\\bArrays\\b",
            "\\bimport (?!java\\.util\\.NoSuchElementException;)"},
        {"none of those whose name ends in Exact", "Exact\\b"},
        {"No other static state, no static initialiser block.", "\\bstatic \\{", "\\bstatic (?!final|int|boolean)"},
        {"try with one or more catches", "\\btry\\b", "\\bcatch\\b"},
        {"No finally, no try with resources", "\\bfinally\\b"},
        {"No synchronized, assert, switch with patterns, record patterns.", "\\bsynchronized\\b", "\\bassert\\b"},
        {"a cast only behind the test that makes it safe", "\\binstanceof\\b", "\\((?!int|long|char)\\w+\\) ?[\\w(]+;"},
        {"No equals, hashCode or toString of your own objects or records", "\\bequals\\b", "\\bhashCode\\b",
            "\\btoString\\b"},
        {"No clock, no randomness, no file, network, thread or environment", "\\bRandom\\b", "\\bThread\\b", "\\bFile"},
    };

    public static void main(String[] args) throws IOException {
        methods();
        fields();
        nested();
        source(Files.readString(Path.of("src/main/java/DuelRound.java")));
        rules(Path.of("../shared/LANGUAGE.md"));
        CHECK.end();
    }

    private static void methods() {
        Set<String> face = new TreeSet<>();
        Set<String> names = new HashSet<>();
        for (Method m : DuelRound.class.getDeclaredMethods()) {
            if (Modifier.isPublic(m.getModifiers())) {
                StringBuilder b = new StringBuilder(m.getReturnType() + " " + m.getName() + "(");
                for (Class<?> type : m.getParameterTypes()) {
                    b.append(b.charAt(b.length() - 1) == '(' ? "" : ",").append(type);
                }
                face.add(b.append(")").toString());
                names.add(m.getName());
            }
        }
        CHECK.due("the face " + face, face.equals(new TreeSet<>(java.util.List.of(METHODS))), true);
        Set<Class<?>> classes = new HashSet<>(java.util.List.of(DuelRound.class.getDeclaredClasses()));
        classes.add(DuelRound.class);
        for (Class<?> c : classes) {
            for (Method m : c.getDeclaredMethods()) {
                boolean isFace = c == DuelRound.class && Modifier.isPublic(m.getModifiers());
                CHECK.due(c + " has a private " + m.getName(), !isFace && names.contains(m.getName()), false);
                CHECK.due(m + " is private", isFace || c != DuelRound.class || Modifier.isPrivate(m.getModifiers()), true);
                CHECK.due(m + " has seven parameters at most", m.getParameterCount() <= 7, true);
            }
        }
        Constructor<?>[] constructors = DuelRound.class.getDeclaredConstructors();
        CHECK.due("constructors", constructors.length, 1);
        CHECK.due("of no parameters", constructors[0].getParameterCount(), 0);
        CHECK.due("public", Modifier.isPublic(constructors[0].getModifiers()), true);
    }

    private static void fields() {
        Set<String> open = new TreeSet<>();
        for (Field f : DuelRound.class.getDeclaredFields()) {
            if (!Modifier.isPrivate(f.getModifiers())) {
                open.add(f.getName());
            }
            CHECK.due(f + " is final if static",
                    !Modifier.isStatic(f.getModifiers()) || Modifier.isFinal(f.getModifiers()), true);
        }
        CHECK.due("open fields " + open, open.equals(new TreeSet<>(java.util.List.of("NONE", "NOTHING"))), true);
        int modifiers = DuelRound.class.getModifiers();
        CHECK.due("the class is public and final", Modifier.isPublic(modifiers) && Modifier.isFinal(modifiers), true);
    }

    private static void nested() {
        Class<?>[] classes = DuelRound.class.getDeclaredClasses();
        CHECK.due("twelve classes at most", classes.length <= 11, true);
        for (Class<?> c : classes) {
            CHECK.due(c + " is static", Modifier.isStatic(c.getModifiers()), true);
            CHECK.due(c + " is not public", Modifier.isPublic(c.getModifiers()), false);
            int own = 0;
            for (Field f : c.getDeclaredFields()) {
                own += Modifier.isStatic(f.getModifiers()) ? 0 : 1;
            }
            CHECK.due(c + " has twenty fields at most", own <= 20, true);
        }
    }

    private static void source(String text) {
        for (int i = 0; i < text.length(); i++) {
            CHECK.due("a sign beyond 126 at " + i, text.charAt(i) <= 126, true);
        }
        String code = text.replaceAll("(?s)/\\*.*?\\*/", "").replaceAll("//[^\n]*", "");
        // Rule 4 lists functions of Integer alone; its one constant is in the face that the document tells.
        String nothing = "int NOTHING = Integer.MIN_VALUE;";
        CHECK.due("the source has " + nothing, code.contains(nothing), true);
        String ownCode = code.replace(nothing, "");
        for (String[] one : RULED_OUT) {
            for (int i = 1; i < one.length; i++) {
                Matcher m = Pattern.compile(one[i]).matcher(ownCode);
                boolean found = m.find();
                CHECK.due("LANGUAGE.md - \"" + one[0] + "\": the source has "
                        + (found ? m.group() : one[i]), found, false);
            }
        }
        throwing(code);
        lengths(code);
    }

    private static void throwing(String code) {
        Matcher thrown = Pattern.compile("throw new (\\w+)\\(\"[^\"]*\"\\)").matcher(code);
        int throwing = 0;
        while (thrown.find()) {
            throwing++;
            CHECK.due("throws " + thrown.group(1), thrown.group(1).equals("NoSuchElementException"), true);
        }
        CHECK.due("throw statements", throwing, 1);
        // Rows are made with the object; no call makes one.
        Matcher made = Pattern.compile("(?m)^(.*)\\bnew (?!NoSuchElementException)").matcher(code);
        while (made.find()) {
            CHECK.due("made once: " + made.group(1), made.group(1).matches(" *(private )?final .*= *"), true);
        }
    }

    private static void lengths(String code) {
        Matcher m = Pattern.compile("(?ms)^( +)(?=\\w)(?:[\\w ]+ )?(\\w+)\\([\\w, \\[\\]]*\\)[\\w ]* \\{$.*?^\\1\\}$").matcher(code);
        int methods = 0;
        while (m.find()) {
            methods++;
            CHECK.due("LANGUAGE.md - \"Methods stay short (some sixty lines)\": " + m.group(2),
                    m.group().lines().count() <= 60, true);
        }
        CHECK.due("there are methods, the face's at least", methods > METHODS.length, true);
    }

    /** The sentences stand in LANGUAGE.md, so that they are those of the rules as they are now. */
    private static void rules(Path language) throws IOException {
        if (!Files.isReadable(language)) {
            System.out.println("not read, so rules are not compared with it: " + language);
            return;
        }
        String rules = Files.readString(language);
        for (String[] one : RULED_OUT) {
            CHECK.due("'" + one[0] + "' stands in LANGUAGE.md", rules.contains(one[0]), true);
        }
    }
}
