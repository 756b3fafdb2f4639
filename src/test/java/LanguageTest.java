import java.lang.reflect.Constructor;
import java.lang.reflect.Field;
import java.lang.reflect.Method;
import java.lang.reflect.Modifier;
import java.nio.file.Files;
import java.nio.file.Path;
import java.util.List;
import java.util.Set;
import java.util.TreeSet;
import java.util.regex.Matcher;
import java.util.regex.Pattern;

/** The rules of ../shared/LANGUAGE.md, as far as they can be seen from the face and the source. */
public final class LanguageTest {
    private static final Set<String> FACE = new TreeSet<>(List.of(
        "int republic(int,int,int,int)", "int ofCitizen(int,int)", "int drawn(int)", "int price(int)",
        "int wish(int,boolean)", "int draw(int,int,int,int,int)", "long rules(int,int)", "long just(int,int)",
        "long mean(int)", "long passes(int)", "int buy(int,int,int)", "int lend(int)", "int least(int)",
        "int reading(int)", "int back(int)", "int tickets(int)", "int kinds(int)", "int counts()",
        "int sheet(int,int,int)", "int lose(int)", "int put(int,int,int)", "long cell(int,int,int)",
        "int copy(int,int,int,int,int)", "int tell(int)", "int call(int)", "int as(int,int)", "int trace()",
        "int fault()", "int many(int)"));
    private static final Set<String> CONSTANTS = new TreeSet<>(List.of(
        "int UNKNOWN -1", "int OUTSIDE -2", "int STATE -3", "int FULL -4", "int NONE -9",
        "long LOST -9223372036854775808"));

    private static int wrong = 0;

    private static void expect(boolean is, String what) {
        if (!is) {
            wrong++;
            System.out.println("not so: " + what);
        }
    }

    public static void main(String[] args) throws Exception {
        methods();
        fields();
        classes();
        String text = Files.readString(Path.of("src/main/java/LoserDraws.java"));
        source(text);
        asDocumented(text, Files.readString(Path.of("../shared/DOC.md")));
        System.out.println(wrong == 0 ? "the class keeps to its language" : wrong + " rules are broken");
        if (wrong != 0) System.exit(1);
    }

    private static String told(Method m) {
        StringBuilder s = new StringBuilder(m.getReturnType() + " " + m.getName() + "(");
        for (Class<?> p : m.getParameterTypes()) s.append(s.charAt(s.length() - 1) == '(' ? "" : ",").append(p);
        return s.append(")").toString();
    }

    private static void methods() {
        Set<String> seen = new TreeSet<>();
        Set<String> names = new TreeSet<>();
        for (Method m : LoserDraws.class.getDeclaredMethods()) {
            if (Modifier.isPrivate(m.getModifiers())) continue;
            seen.add(told(m));
            names.add(m.getName());
            expect(m.getModifiers() == Modifier.PUBLIC, "public and no more: " + m);
        }
        expect(seen.equals(FACE), "the face is " + seen);
        for (Method m : LoserDraws.class.getDeclaredMethods()) {
            expect(!Modifier.isPrivate(m.getModifiers()) || !names.contains(m.getName()), "another name for " + m);
            expect(m.getParameterCount() <= 7, "at most seven parameters: " + m);
        }
        Constructor<?>[] made = LoserDraws.class.getDeclaredConstructors();
        expect(made.length == 1 && made[0].getParameterCount() == 0, "one constructor, of nothing");
        expect(made.length == 1 && made[0].getModifiers() == Modifier.PUBLIC, "a public constructor");
        expect(LoserDraws.class.getModifiers() == (Modifier.PUBLIC | Modifier.FINAL), "public and final");
    }

    private static void fields() throws Exception {
        Set<String> seen = new TreeSet<>();
        for (Field f : LoserDraws.class.getDeclaredFields()) {
            boolean isStatic = Modifier.isStatic(f.getModifiers());
            expect(!isStatic || Modifier.isFinal(f.getModifiers()), "static fields are final: " + f);
            if (Modifier.isPrivate(f.getModifiers())) continue;
            expect(isStatic, "a constant: " + f);
            seen.add(f.getType() + " " + f.getName() + " " + f.get(null));
        }
        expect(seen.equals(CONSTANTS), "the constants are " + seen);
    }

    private static void classes() {
        Class<?>[] inside = LoserDraws.class.getDeclaredClasses();
        expect(inside.length <= 11, "at most some twelve classes");
        for (Class<?> c : inside) {
            expect(Modifier.isStatic(c.getModifiers()), "static: " + c);
            expect(!Modifier.isPublic(c.getModifiers()) && !Modifier.isProtected(c.getModifiers()), "not seen: " + c);
            for (Field f : c.getDeclaredFields()) {
                expect(!Modifier.isStatic(f.getModifiers()) || Modifier.isFinal(f.getModifiers()), "final: " + f);
            }
            for (Method m : c.getDeclaredMethods()) {
                expect(m.getParameterCount() <= 7, "at most seven parameters: " + m);
                boolean taken = FACE.stream().anyMatch(f -> f.contains(" " + m.getName() + "("));
                expect(!taken, "another name than one of the face: " + m);
            }
        }
    }

    private static void source(String text) {
        String code = text.replaceAll("(?s)/\\*.*?\\*/", "").replaceAll("//[^\n]*", "");
        String[] barred = {"\\bthrow", "\\btry\\b", "\\bcatch\\b", "\\bsynchronized\\b", "\\bassert\\b", "->", "::",
            "\\bimport\\b", "\\bpackage\\b", "\\bequals\\b", "\\bhashCode\\b", "\\btoString\\b", "Exact\\b", "\\bgoto\\b",
            "\\bstatic\\s*\\{", "\\bnative\\b", "\\bObject\\b", "\\bSystem\\.(?!arraycopy\\b)", "\\bwhile\\s*\\(\\s*true"};
        for (String b : barred) expect(!Pattern.compile(b).matcher(code).find(), "no " + b);
        for (int i = 0; i < text.length(); i++) {
            if (text.charAt(i) > 126) expect(false, "signs 1 to 127 alone, at " + i);
        }
        methodsAreShort(code);
        madeOnce(code);
    }

    /** The document's face, line by line and in its order, with the headings that it tells ahead of calls. */
    private static void asDocumented(String text, String document) {
        Matcher face = Pattern.compile("(?s)```java\n(.*?)```").matcher(document);
        expect(face.find(), "the document has a face");
        int at = 0;
        for (String line : face.group(1).lines().map(String::trim).toList()) {
            String member = line.replaceFirst("\\);$", ") {");
            int next = text.indexOf(member, at);
            expect(next >= 0, "as the face has it, in its order: " + line);
            at = Math.max(at, next);
        }
        Matcher heading = Pattern.compile("Ahead of the calls `(\\w+)`.* says: (---- .*)\\.").matcher(document);
        int seen = 0;
        while (heading.find()) {
            seen++;
            Pattern ahead = Pattern.compile("// " + heading.group(2) + "\n\\s+public \\w+ " + heading.group(1) + "\\(");
            expect(ahead.matcher(text).find(), heading.group(2) + " ahead of " + heading.group(1));
        }
        expect(seen == 5, "five headings");
    }

    /** All calls of a run live in one room: objects are made as an object is made, and by no call. */
    private static void madeOnce(String code) {
        int from = code.indexOf("public LoserDraws() {");
        int to = code.indexOf("\n    }", from);
        expect(from > 0 && to > from, "there is a constructor");
        String calls = code.substring(0, Math.max(0, from)) + code.substring(Math.max(0, to));
        for (String line : calls.split("\n")) {
            boolean field = line.trim().startsWith("private final ");
            expect(field || !line.matches(".*\\bnew\\b.*"), "made once: " + line.trim());
        }
    }

    private static void methodsAreShort(String code) {
        Matcher m = Pattern.compile("(?m)^( +)(?:public|private)[^;={]*\\) \\{$").matcher(code);
        int seen = 0;
        while (m.find()) {
            seen++;
            int end = code.indexOf("\n" + m.group(1) + "}", m.end());
            long lines = code.substring(m.start(), Math.max(m.start(), end)).lines().count() + 1;
            expect(end > 0 && lines <= 60, "some sixty lines at most: " + m.group().trim());
        }
        expect(seen > FACE.size(), "methods are seen in the source");
    }
}
