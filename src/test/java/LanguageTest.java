import java.io.IOException;
import java.lang.reflect.Constructor;
import java.lang.reflect.Field;
import java.lang.reflect.Method;
import java.lang.reflect.Modifier;
import java.nio.file.Files;
import java.nio.file.Path;
import java.util.Arrays;
import java.util.List;
import java.util.Set;
import java.util.TreeSet;
import java.util.regex.Matcher;
import java.util.regex.Pattern;

/** What a reading of the source and of the compiled class can tell of the rules of LANGUAGE.md. */
public final class LanguageTest {
    private static final Due due = new Due("LanguageTest");
    private static final Path SOURCE = Path.of("src/main/java/OneKnife.java");
    private static final String FACE = "thing(int,int) broken(int,int,int) type(int,int) wipe(int) fault(int) about(int,int) "
        + "set(int,int,int) drop(int,boolean) rule(int,int) who(int,int) state(int,int) done(int,int) told(int,int) late() "
        + "ring(int) bound(int) held(int) best(int) slack(int,int) shed(int) whatever(int,int,int) fits(int) mended(int) "
        + "sheet(int,int,int) lose(int) put(int,int,int,int) get(int,int,int) copy(int,int,int,int,int) write(int) count(int) digest()";

    public static void main(String[] args) throws IOException {
        face();
        classesInside();
        words();
        methods();
        due.end();
    }

    private static void tell(String what, boolean good) {
        due.is(what, good ? 1 : 0, 1);
    }

    private static String signature(Method m) {
        StringBuilder s = new StringBuilder(m.getName()).append("(");
        for (Class<?> p : m.getParameterTypes()) {
            s.append(s.charAt(s.length() - 1) == '(' ? "" : ",").append(p.getName());
        }
        return s.append(")").toString();
    }

    private static void face() {
        Set<String> open = new TreeSet<>();
        Set<String> openNames = new TreeSet<>();
        for (Method m : OneKnife.class.getDeclaredMethods()) {
            if (Modifier.isPublic(m.getModifiers())) {
                open.add(signature(m));
                openNames.add(m.getName());
                tell("type of " + m, m.getReturnType() == (m.getName().equals("digest") ? long.class : int.class));
            }
        }
        tell("rule 1: the face " + open, open.equals(new TreeSet<>(Arrays.asList(FACE.split(" ")))));
        for (Method m : OneKnife.class.getDeclaredMethods()) {
            if (!Modifier.isPublic(m.getModifiers())) {
                tell("rule 1: private " + m, Modifier.isPrivate(m.getModifiers()) && !openNames.contains(m.getName()));
            }
        }
        for (Class<?> c : OneKnife.class.getDeclaredClasses()) {
            for (Method m : c.getDeclaredMethods()) {
                tell("rule 1: another name " + m, !openNames.contains(m.getName()));
            }
        }
        Set<String> constants = new TreeSet<>();
        for (Field f : OneKnife.class.getDeclaredFields()) {
            if (!Modifier.isPrivate(f.getModifiers())) {
                constants.add(f.getName() + Modifier.toString(f.getModifiers()));
            }
        }
        String kind = "public static final";
        tell("rule 1: the constants", constants.equals(Set.of("NONE" + kind, "BAD" + kind, "NOT" + kind, "FULL" + kind)));
        Constructor<?>[] all = OneKnife.class.getDeclaredConstructors();
        tell("rule 1: one constructor", all.length == 1 && Modifier.isPublic(all[0].getModifiers()) && all[0].getParameterCount() == 0);
        tell("rule 1: public and final", Modifier.toString(OneKnife.class.getModifiers()).equals(kind.replace(" static", "")));
    }

    private static void classesInside() {
        Class<?>[] inside = OneKnife.class.getDeclaredClasses();
        tell("rule 11: classes", inside.length < 12);
        for (Class<?> c : inside) {
            tell("rule 2: static " + c, Modifier.isStatic(c.getModifiers()) && !Modifier.isPublic(c.getModifiers()));
            tell("rule 2: none deeper " + c, c.getDeclaredClasses().length == 0);
            fields(c);
        }
        fields(OneKnife.class);
    }

    private static void fields(Class<?> c) {
        int number = 0;
        for (Field f : c.getDeclaredFields()) {
            if (Modifier.isStatic(f.getModifiers())) {
                tell("rule 5: final " + f, Modifier.isFinal(f.getModifiers()));
            } else {
                number++;
            }
        }
        tell("rule 11: fields of " + c + ": " + number, number <= 20);
    }

    private static void words() throws IOException {
        String code = Files.readString(SOURCE).replaceAll("(?s)/\\*.*?\\*/", "").replaceAll("//[^\n]*", "");
        String[] words = {"throw", "throws", "try", "catch", "synchronized", "assert", "import", "package", "protected", "instanceof",
            "static \\{", "System\\.(?!arraycopy)", "Thread", "Random", "var", "yield", "record", "enum", "volatile", "native"};
        for (String word : words) {
            tell("rule 6 and others: " + word, !Pattern.compile("\\b" + word + (word.matches("\\w+") ? "\\b" : "")).matcher(code).find());
        }
        tell("rule 2: no lambda", !code.contains("->") && !code.contains("::"));
        tell("rule 4: signs", code.chars().allMatch(c -> c < 128));
        tell("no text is made", !code.contains("\"") && !code.contains("String"));
        tell("rule 9: loops with an end", !Pattern.compile("while \\(true|for \\(;;").matcher(code).find());
    }

    /** Rows are made in constructors alone, so that no call takes of the room that all calls share. */
    private static void methods() throws IOException {
        List<String> lines = Files.readAllLines(SOURCE);
        Pattern head = Pattern.compile("^( +)(private|public) .*\\b(\\w+)\\((.*)\\) \\{$");
        int number = 0;
        for (int i = 0; i < lines.size(); i++) {
            Matcher m = head.matcher(lines.get(i));
            if (!m.matches()) {
                continue;
            }
            number++;
            int end = lines.subList(i, lines.size()).indexOf(m.group(1) + "}") + i;
            boolean makes = Character.isUpperCase(m.group(3).charAt(0));
            tell("rule 11: length of " + m.group(3) + " " + (end - i + 1), end > i && end - i + 1 <= 60);
            tell("rule 11: parameters of " + m.group(3), m.group(4).split(",").length <= 7);
            for (int k = i; k < end && !makes; k++) {
                tell("made in a call: " + lines.get(k), !lines.get(k).matches(".*\\bnew\\b.*") || lines.get(k).contains("//") || lines.get(k).contains("/**"));
            }
        }
        tell("methods are found", number > 100);
    }
}
