import java.io.IOException;
import java.lang.reflect.Field;
import java.lang.reflect.Method;
import java.lang.reflect.Modifier;
import java.nio.file.Files;
import java.nio.file.Path;
import java.util.HashSet;
import java.util.Set;
import java.util.TreeSet;
import java.util.regex.Matcher;
import java.util.regex.Pattern;

/** LANGUAGE.md: the face, and what the file may not hold, as far as can be seen by its words. */
public final class LanguageTest {
    private static final String FACE = "set/3 walker/3 told/2 feed/1 text/0 force/1 day/0 run/3 mend/1 far/3 least/3"
        + " heaviest/3 away/2 keeper/2 spare/2 tells/3 film/3 drawn/2 chance/3 image/0 back/0 count/1 sheet/3 cell/3"
        + " copy/5 walkers/4 taken/2";
    private static final String[] NEVER = {"throw", "throws", "try", "catch", "synchronized", "assert", "double",
        "float", "protected", "native", "volatile", "Object", "hashCode", "toString", "Random", "Thread"};

    public static void main(String[] args) throws IOException {
        String source = Files.readString(Path.of("src/main/java/SolesByWhatIsTold.java"));
        face();
        words(source);
        booleans(source);
        methods(source);
        Checks.end();
    }

    private static void face() {
        Checks.begin("rule 1");
        Class<?> type = SolesByWhatIsTold.class;
        Checks.yes("public and final", Modifier.isPublic(type.getModifiers()) && Modifier.isFinal(type.getModifiers()));
        Set<String> face = new TreeSet<>();
        Set<String> names = new HashSet<>();
        for (Method method : type.getDeclaredMethods()) {
            if (Modifier.isPublic(method.getModifiers())) {
                face.add(method.getName() + "/" + method.getParameterCount());
                names.add(method.getName());
            }
        }
        Checks.yes("the face: " + face, face.equals(new TreeSet<>(Set.of(FACE.split(" ")))));
        for (Method method : type.getDeclaredMethods()) {
            boolean isPublic = Modifier.isPublic(method.getModifiers());
            boolean isPrivate = Modifier.isPrivate(method.getModifiers());
            Checks.yes(method + " is public or private", isPublic || isPrivate || method.isSynthetic());
            Checks.yes(method + " has no public one's name", isPublic || !names.contains(method.getName()));
            Checks.yes(method + " has few parameters", method.getParameterCount() <= 7);
        }
        Set<String> constants = new TreeSet<>();
        for (Field field : type.getDeclaredFields()) {
            boolean isPublic = Modifier.isPublic(field.getModifiers());
            if (isPublic) {
                constants.add(field.getName());
            }
            Checks.yes(field + " is private or a constant of the face", isPublic || Modifier.isPrivate(field.getModifiers()));
            Checks.yes(field + ", if static, is final",
                !Modifier.isStatic(field.getModifiers()) || Modifier.isFinal(field.getModifiers()));
        }
        Checks.yes("the constants: " + constants, constants.equals(new TreeSet<>(Set.of("NONE", "BAD", "STATE", "FULL", "NO"))));
        Checks.due("classes inside, at most twelve", Math.min(12, type.getDeclaredClasses().length), type.getDeclaredClasses().length);
        for (Class<?> inside : type.getDeclaredClasses()) {
            Checks.yes(inside + " is static", Modifier.isStatic(inside.getModifiers()));
            int fields = 0;
            for (Field field : inside.getDeclaredFields()) {
                fields += Modifier.isStatic(field.getModifiers()) ? 0 : 1;
            }
            Checks.yes(inside + " has few fields", fields <= 20);
        }
    }

    private static void words(String source) {
        Checks.begin("rules 3 to 6");
        String code = source.replaceAll("(?s)/\\*.*?\\*/", "").replaceAll("//[^\n]*", "");
        for (String word : NEVER) {
            Checks.yes("no " + word, !Pattern.compile("\\b" + word + "\\b").matcher(code).find());
        }
        Checks.yes("no lambda, no method reference", !code.contains("->") && !code.contains("::"));
        Checks.yes("none that ends in Exact", !code.contains("Exact"));
        Checks.yes("signs are 1 to 127", source.chars().allMatch(c -> c > 0 && c < 128));
        Matcher imports = Pattern.compile("import ([^;]*);").matcher(code);
        while (imports.find()) {
            Checks.yes("import of " + imports.group(1), Set.of("java.util.Arrays", "java.util.ArrayList", "java.util.List")
                .contains(imports.group(1)));
        }
        Matcher library = Pattern.compile("\\b(System|Arrays|Math|Integer|Long)\\.(\\w+)").matcher(code);
        while (library.find()) {
            Checks.yes(library.group(), Set.of("System.arraycopy", "Arrays.fill", "Math.max", "Math.min").contains(library.group()));
        }
        // rows are made in constructors alone: as fields, and as what the rows of objects hold
        Matcher made = Pattern.compile("(?m)^.*\\bnew \\w+.*$").matcher(code);
        while (made.find()) {
            String line = made.group().trim();
            Checks.yes("made in a constructor: " + line, line.contains("final ") || line.matches("\\w+\\[i\\] = new \\w+\\(\\);")
                || line.equals("thought = new Thought(texts[0]);"));
        }
    }

    /** Rule 10 names shifts and masks over int and long alone; of booleans && and || are fine. */
    private static void booleans(String source) {
        Checks.begin("rule 10");
        Matcher named = Pattern.compile("\\bboolean (\\w+)( =|;|,|\\))").matcher(source);
        while (named.find()) {
            String name = named.group(1);
            Checks.yes("no mask of boolean " + name, !Pattern.compile("\\b" + name + " [|&^]=?[^|&]").matcher(source).find());
        }
    }

    private static void methods(String source) {
        Checks.begin("rule 11");
        String[] lines = source.split("\n");
        int from = -1;
        for (int i = 0; i < lines.length; i++) {
            boolean opens = lines[i].matches("    (    )?[a-z][^=;]*\\) \\{") && !lines[i].trim().matches("(if|for|while|switch).*");
            if (opens) {
                from = i;
            }
            if (from >= 0 && lines[i].matches("    (    )?\\}")) {
                Checks.yes("short: " + lines[from].trim(), i - from <= 60);
                from = -1;
            }
        }
    }
}
