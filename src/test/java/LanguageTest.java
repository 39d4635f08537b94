import java.io.IOException;
import java.lang.reflect.Field;
import java.lang.reflect.Method;
import java.lang.reflect.Modifier;
import java.nio.file.Files;
import java.nio.file.Path;
import java.util.Arrays;
import java.util.List;
import java.util.Set;
import java.util.TreeSet;
import java.util.regex.Matcher;
import java.util.regex.Pattern;

/** Those rules of LANGUAGE.md, and the document's face, that can be seen from the source or by reflection. */
public final class LanguageTest {
    private static final Check CHECK = new Check();
    private static final String FACE = "feed/1 end/1 text/0 fault/0 rule/1 person/2 ticket/2 prize/2 sign/3 fill/2 promise/2 draw/2"
        + " worth/1 day/2 mean/2 luck/3 solid/1 ends/2 fee/2 kind/1 buy/1 cap/3 see/2 forget/1 fits/1 ask/1 drift/2 keep/1 back/1"
        + " sheet/3 lay/3 read/4 torn/0 count/1";
    private static final Set<String> LONGS = Set.of("worth", "day", "mean", "luck", "solid");
    private static final List<String> RULED_OUT = List.of(
        "\\b(throw|throws|try|catch|finally|synchronized|assert|native|volatile|transient|package|yield|sealed)\\b",
        "->", "::", "\\bstatic\\s*\\{", "Exact\\b", "\\b(System\\.(?!arraycopy\\b)|Object|Random|Thread|Runtime|Float|Double)\\b",
        "\\b(Integer|Math)\\.(?!(bitCount|abs|min|max)\\()", "\"\\s*\\+|\\+\\s*\"", "\\b(hashCode|toString)\\b", "\\[\\]\\s*\\[\\]\\s*\\[\\]");

    public static void main(String[] args) throws IOException {
        String source = Files.readString(Path.of(args[0]));
        String code = source.replaceAll("(?s)/\\*.*?\\*/", "").replaceAll("//[^\n]*", "");
        face();
        ruledOut(code);
        objectsAreMadeByConstructorsAlone(code);
        methods(code);
        CHECK.close("LanguageTest");
    }

    private static void face() {
        Set<String> want = new TreeSet<>(Arrays.asList(FACE.split(" ")));
        Set<String> got = new TreeSet<>();
        Set<String> names = new TreeSet<>();
        for (Method m : WheelTickets.class.getDeclaredMethods()) {
            if (!Modifier.isPrivate(m.getModifiers())) {
                got.add(m.getName() + "/" + m.getParameterCount());
                names.add(m.getName());
                Class<?> answer = LONGS.contains(m.getName()) ? long.class : int.class;
                CHECK.that("the answer of " + m.getName(), m.getReturnType() == answer);
                CHECK.that(m.getName() + " is public, of an object", m.getModifiers() == Modifier.PUBLIC);
                CHECK.that("the numbers of " + m.getName(),
                    Arrays.stream(m.getParameterTypes()).allMatch(t -> t == int.class));
            }
        }
        CHECK.that("the face is the document's: " + got, got.equals(want));
        for (Class<?> c : WheelTickets.class.getDeclaredClasses()) {
            CHECK.that(c + " is static", Modifier.isStatic(c.getModifiers()));
            CHECK.that(c + " has some twenty fields", c.getDeclaredFields().length <= 20);
            for (Method m : c.getDeclaredMethods()) {
                CHECK.that(m + " bears no name of the face", !names.contains(m.getName()));
            }
        }
        for (Method m : WheelTickets.class.getDeclaredMethods()) {
            CHECK.that(m + " bears no name of the face",
                !Modifier.isPrivate(m.getModifiers()) || !names.contains(m.getName()));
        }
        for (Field f : WheelTickets.class.getDeclaredFields()) {
            boolean constant = Set.of("BAD", "STATE", "FULL", "NONE").contains(f.getName());
            CHECK.that(f + " is private or of the face", constant == Modifier.isPublic(f.getModifiers()));
            CHECK.that(f + " is private or of the face", constant || Modifier.isPrivate(f.getModifiers()));
            CHECK.that(f + " is final, if static",
                !Modifier.isStatic(f.getModifiers()) || Modifier.isFinal(f.getModifiers()));
        }
        CHECK.that("public and final", WheelTickets.class.getModifiers() == (Modifier.PUBLIC | Modifier.FINAL));
        CHECK.that("some twelve classes", WheelTickets.class.getDeclaredClasses().length <= 12);
    }

    private static void ruledOut(String code) {
        for (String pattern : RULED_OUT) {
            Matcher m = Pattern.compile(pattern).matcher(code);
            CHECK.that("ruled out: " + pattern, !m.find());
        }
        Matcher imports = Pattern.compile("import ([^;]*);").matcher(code);
        while (imports.find()) {
            CHECK.that("import of " + imports.group(1), imports.group(1).equals("java.util.Arrays"));
        }
        CHECK.that("signs 1 to 127", code.chars().allMatch(c -> c > 0 && c < 128));
    }

    /** The room is one for all calls of a run: so no call may make anything. */
    private static void objectsAreMadeByConstructorsAlone(String code) {
        for (String line : code.split("\n")) {
            if (line.matches(".*\\bnew\\b.*")) {
                boolean field = line.matches("\\s*(private )?final [A-Za-z]+(\\[\\])? \\w+ = new .*");
                boolean row = line.matches("\\s*(images\\[k\\] = new Wheel\\(\\);|sheets\\[k\\] = new Sheet\\(\\);)");
                CHECK.that("made by a constructor:" + line, field || row);
            }
        }
        CHECK.that("no clone, no copy", !code.matches("(?s).*\\b(clone|copyOf|copyOfRange|substring|StringBuilder)\\b.*"));
    }

    private static void methods(String code) {
        String[] lines = code.split("\n");
        int start = -1;
        String indent = "";
        for (int i = 0; i < lines.length; i++) {
            Matcher m = Pattern.compile("^( {4}| {8})[a-z].*\\((.*)\\) \\{$").matcher(lines[i]);
            if (start < 0 && m.matches()) {
                start = i;
                indent = m.group(1);
                CHECK.that("seven parameters at most:" + lines[i], m.group(2).split(",").length <= 7);
            } else if (start >= 0 && lines[i].equals(indent + "}")) {
                CHECK.that("sixty lines at most:" + lines[start], i - start <= 60);
                start = -1;
            }
        }
    }
}
