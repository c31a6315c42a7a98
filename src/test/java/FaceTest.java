import java.io.IOException;
import java.lang.reflect.Constructor;
import java.lang.reflect.Field;
import java.lang.reflect.Method;
import java.lang.reflect.Modifier;
import java.nio.file.Files;
import java.nio.file.Path;
import java.util.Arrays;
import java.util.Map;
import java.util.Set;
import java.util.TreeMap;
import java.util.TreeSet;
import java.util.regex.Matcher;
import java.util.regex.Pattern;

/** The public face, and those rules of LANGUAGE.md that can be seen from the text. Runs in the project's folder. */
public final class FaceTest {
    private static final Path DOCUMENT = Path.of("../shared/DOC.md");
    private static final Path PROGRAM = Path.of("src/main/java/WhistledWords.java");
    private static final String[] FACE = {
        "feed(long)", "end(int)", "tongue()", "fault()", "word(int,int)", "ask(int,int)", "blurred(int,int,int)",
        "apart(int,int,int)", "until(int,int)", "cut(int,int,int)", "means(int,int,int,int,int,int)",
        "both(int,int,int,int)", "sure(int,int)", "place(int,int,int)", "ridge(int,int)", "sheet(int,int,int)",
        "lay(int,int,int)", "wind(int,int)", "blur(int,int,int)", "hears(int,int,int)", "way(int,int,int,int)",
        "call(int,int,int,int,int,int)", "callOf(int,int)", "lie(int,boolean)", "has(int,int,int,int)",
        "knows(int,int,int,int)", "since(int,int,int)", "spread(int,int,int,int,int)", "child()",
        "learn(int,int,int)", "childOf(int,int)", "lessons(int,int)", "count(int)"};
    private static final String[] FORBIDDEN = {
        "throw", "throws", "try", "catch", "finally", "synchronized", "assert", "native", "volatile", "->", "::",
        "protected", "System\\.out", "hashCode", "toString", "Exact", "package", "Object", "long\\[\\]\\[\\]"};

    public static void main(String[] args) throws IOException {
        face();
        members();
        String text = Files.readString(PROGRAM).replaceAll("(?s)/\\*.*?\\*/", "").replaceAll("//[^\n]*", "");
        forbidden(text);
        methods(text);
        nested();
        depth(text);
        asTheDocumentWrites(Files.readString(PROGRAM));
        Due.finish();
    }

    private static void face() {
        Set<String> due = new TreeSet<>(Arrays.asList(FACE));
        Set<String> found = new TreeSet<>();
        for (Method m : WhistledWords.class.getDeclaredMethods()) {
            if (Modifier.isPublic(m.getModifiers())) {
                String types = Arrays.toString(Arrays.stream(m.getParameterTypes()).map(Class::getName).toArray());
                found.add(m.getName() + "(" + types.substring(1, types.length() - 1).replace(" ", "") + ")");
                Due.that(m + " answers an int", m.getReturnType() == int.class && !Modifier.isStatic(m.getModifiers()));
            }
        }
        Due.that("the methods of the face: " + found, found.equals(due));
        Constructor<?>[] makers = WhistledWords.class.getDeclaredConstructors();
        Due.that("one public constructor", makers.length == 1 && Modifier.isPublic(makers[0].getModifiers())
                && makers[0].getParameterCount() == 0);
        int is = WhistledWords.class.getModifiers();
        Due.that("public and final", Modifier.isPublic(is) && Modifier.isFinal(is));
        Due.is(0, "BAD", WhistledWords.BAD, -1);
        Due.is(0, "STATE", WhistledWords.STATE, -2);
        Due.is(0, "FULL", WhistledWords.FULL, -3);
        Due.is(0, "NONE", WhistledWords.NONE, -4);
    }

    private static void members() {
        Set<String> constants = Set.of("BAD", "STATE", "FULL", "NONE");
        for (Field f : WhistledWords.class.getDeclaredFields()) {
            boolean shown = constants.contains(f.getName());
            Due.that(f + " is private, or a constant of the face", Modifier.isPrivate(f.getModifiers()) != shown);
            Due.that(f + ": what is static is final", !Modifier.isStatic(f.getModifiers()) || Modifier.isFinal(f.getModifiers()));
        }
        for (Method m : WhistledWords.class.getDeclaredMethods()) {
            Due.that(m + " is public or private", Modifier.isPublic(m.getModifiers()) || Modifier.isPrivate(m.getModifiers()));
        }
    }

    private static void nested() {
        Set<String> names = new TreeSet<>();
        for (String call : FACE) {
            names.add(call.substring(0, call.indexOf('(')));
        }
        Class<?>[] classes = WhistledWords.class.getDeclaredClasses();
        Due.that("at most twelve classes", classes.length + 1 <= 12);
        for (Class<?> c : classes) {
            Due.that(c + " is static", Modifier.isStatic(c.getModifiers()));
            long fields = Arrays.stream(c.getDeclaredFields()).filter(f -> !Modifier.isStatic(f.getModifiers())).count();
            Due.that(c + " has at most twenty fields", fields <= 20);
            for (Method m : c.getDeclaredMethods()) {
                Due.that(m + " bears no name of the face", !names.contains(m.getName()));
            }
        }
    }

    private static void forbidden(String text) {
        for (String word : FORBIDDEN) {
            String pattern = Character.isLetter(word.charAt(0)) ? "\\b" + word + "\\b" : Pattern.quote(word);
            Due.that("there is no " + word, !Pattern.compile(pattern).matcher(text).find());
        }
        Matcher imports = Pattern.compile("import ([^;]*);").matcher(text);
        while (imports.find()) {
            Due.that("import " + imports.group(1), imports.group(1).equals("java.util.Arrays"));
        }
        for (char c : text.toCharArray()) {
            if (c > 126) {
                Due.that("the sign " + (int) c, false);
            }
        }
    }

    /** Short methods of few parameters, and nothing made outside a constructor: so no run outgrows its room. */
    private static void methods(String text) {
        Pattern head = Pattern.compile("^ {4}(?: {4})?((?:[\\w\\[\\]]+ )*)(\\w+)\\(([^)]*)\\) \\{$");
        String name = "";
        boolean maker = false;
        int length = 0;
        for (String line : text.split("\n")) {
            Matcher m = head.matcher(line);
            length++;
            if (m.matches() && !m.group(2).matches("if|for|while|switch")) {
                name = m.group(2);
                maker = m.group(1).matches("(public |private )?");
                length = 0;
                Due.that(name + " has at most seven parameters", m.group(3).split(",").length <= 7);
            }
            Due.that(name + " has at most sixty lines", length <= 60 || !line.matches("^ {4}(?: {4})?}$"));
            Due.that(name + " makes nothing: " + line.trim(), maker || !line.matches(".*\\bnew\\b.*"));
        }
    }

    /** Names of methods are told apart by nothing but themselves here, which can only make a chain of calls longer. */
    private static void depth(String text) {
        Map<String, Set<String>> called = new TreeMap<>();
        Matcher heads = Pattern.compile("(?m)^( {4}| {8})(?:[\\w\\[\\]]+ )+(\\w+)\\([^)]*\\) \\{$(?s:(.*?))\n\\1}$").matcher(text);
        while (heads.find()) {
            if (!heads.group(2).matches("[A-Z]\\w*")) {
                Set<String> names = called.computeIfAbsent(heads.group(2), name -> new TreeSet<>());
                Matcher calls = Pattern.compile("\\b(\\w+)\\(").matcher(heads.group(3));
                while (calls.find()) {
                    names.add(calls.group(1));
                }
            }
        }
        Due.that("the methods are found: " + called.size(), called.size() > 100 && called.containsKey("isOneWord"));
        for (String name : called.keySet()) {
            int deep = depthOf(name, called, 0);
            Due.that(name + " goes at most eight deep, and never back into itself: " + deep, deep <= 8);
        }
    }

    private static int depthOf(String name, Map<String, Set<String>> called, int above) {
        int most = 0;
        if (above <= 20) {
            for (String next : called.getOrDefault(name, Set.of())) {
                most = Math.max(most, called.containsKey(next) ? depthOf(next, called, above + 1) : 0);
            }
        }
        return most + 1;
    }

    /** The face, with the names of the parameters, and what the interface says ahead of the calls. */
    private static void asTheDocumentWrites(String program) throws IOException {
        if (!Files.exists(DOCUMENT)) {
            System.out.println("there is no " + DOCUMENT + ": the face is not looked up");
            return;
        }
        String document = Files.readString(DOCUMENT);
        Matcher lines = Pattern.compile("(?m)^ {4}(public .*);$").matcher(document);
        int found = 0;
        while (lines.find()) {
            boolean call = lines.group(1).endsWith(")");
            Due.that("the program has: " + lines.group(1), program.contains("\n    " + lines.group(1) + (call ? " {" : ";")));
            found++;
        }
        Due.is(0, "lines of the face", found, FACE.length + 2);
        Matcher parts = Pattern.compile("Ahead of the calls (.*) the interface says: (---- [a-z ]*)\\.").matcher(document);
        while (parts.find()) {
            int at = program.indexOf("    // " + parts.group(2) + "\n");
            int end = program.indexOf("    // ----", at + 1);
            String part = at < 0 ? "" : program.substring(at, end < 0 ? program.length() : end);
            for (String name : parts.group(1).split("[`, ]+")) {
                Due.that(name + " stands behind " + parts.group(2), name.isEmpty() || part.contains("public int " + name + "("));
            }
        }
    }
}
