import java.io.IOException;
import java.lang.reflect.Constructor;
import java.lang.reflect.Field;
import java.lang.reflect.Method;
import java.lang.reflect.Modifier;
import java.nio.charset.StandardCharsets;
import java.nio.file.Files;
import java.nio.file.Path;
import java.util.HashSet;
import java.util.Set;
import java.util.TreeSet;
import java.util.regex.Matcher;
import java.util.regex.Pattern;

/** The rules of LANGUAGE.md that can be seen in the source or by reflection; and the face of the document. */
public final class LanguageTest {
    private static final String FACE = "state(int) teller(int,int) set(int,int,int) act(int,int,int) days(int) "
            + "feed(int,int,int,int,int) end(int) text(int) fault(int) of(int,int) moves(int) book(int,int) "
            + "goes(int,int) ahead(int) right(int,int) surest() likely(int) glued() seen(int) round(int) "
            + "safe(int,int) works(int,int,int,int) umbrella(int,int) leaks(int,int) wins(int) weighs(int) "
            + "post(int,int) serves(int) hats() mix(int,int) mixes(int) game(int) undo() image(boolean) look(int)";
    private static final Set<String> BOOLEANS = Set.of("set", "act", "end", "mix", "undo", "image");
    private static final Checks C = new Checks();

    public static void main(String[] args) throws IOException {
        checkFace();
        checkClasses();
        String source = Files.readString(Path.of("src/main/java/SackedGlass.java"), StandardCharsets.US_ASCII);
        checkWords(source);
        checkMethodLengths(source);
        C.finish("LanguageTest");
    }

    private static void rule(String what, boolean kept) {
        C.due(what, kept, true);
    }

    private static String told(Method m) {
        StringBuilder b = new StringBuilder(m.getName()).append('(');
        for (Class<?> p : m.getParameterTypes()) b.append(b.charAt(b.length() - 1) == '(' ? "" : ",").append(p.getName());
        return b.append(')').toString();
    }

    private static void checkFace() {
        Class<?> face = SackedGlass.class;
        rule("the class is public and final", Modifier.isPublic(face.getModifiers()) && Modifier.isFinal(face.getModifiers()));
        Set<String> is = new TreeSet<>();
        for (Method m : face.getDeclaredMethods()) {
            if (Modifier.isPrivate(m.getModifiers())) continue;
            rule(m + " is public", Modifier.isPublic(m.getModifiers()) && !Modifier.isStatic(m.getModifiers()));
            rule(m + " answers as the document says",
                    m.getReturnType() == (BOOLEANS.contains(m.getName()) ? boolean.class : int.class));
            is.add(told(m));
        }
        C.due("methods of the face", is.equals(new TreeSet<>(Set.of(FACE.split(" ")))), true);
        for (Field f : face.getDeclaredFields()) {
            rule(f + " is private", Modifier.isPrivate(f.getModifiers()) || f.getName().equals("NONE"));
        }
        Constructor<?>[] made = face.getDeclaredConstructors();
        rule("one constructor", made.length == 1 && Modifier.isPublic(made[0].getModifiers()) && made[0].getParameterCount() == 0);
    }

    private static void checkClasses() {
        Set<String> faceNames = new HashSet<>();
        for (String m : FACE.split(" ")) faceNames.add(m.substring(0, m.indexOf('(')));
        Class<?>[] inside = SackedGlass.class.getDeclaredClasses();
        rule("some twelve classes", inside.length + 1 <= 12);
        for (Class<?> c : inside) {
            rule(c + " is static", Modifier.isStatic(c.getModifiers()));
            rule(c + " is private or package-visible",
                    !Modifier.isPublic(c.getModifiers()) && !Modifier.isProtected(c.getModifiers()));
            for (Method m : c.getDeclaredMethods()) {
                rule(m + " has no name of the face", !faceNames.contains(m.getName()));
                rule(m + " has seven parameters at most", m.getParameterCount() <= 7);
            }
            int fields = 0;
            for (Field f : c.getDeclaredFields()) {
                boolean still = Modifier.isStatic(f.getModifiers());
                rule(f + " is final if it is static", !still || Modifier.isFinal(f.getModifiers()));
                fields += still ? 0 : 1;
            }
            rule(c + " has some twenty fields", fields <= 20);
        }
        for (Method m : SackedGlass.class.getDeclaredMethods()) {
            rule(m + " has no name of the face", !Modifier.isPrivate(m.getModifiers()) || !faceNames.contains(m.getName()));
        }
    }

    private static void checkWords(String source) {
        String code = source.replaceAll("(?s)/\\*.*?\\*/", "").replaceAll("//[^\n]*", "")
                .replaceAll("\"[^\"\n]*\"", "TEXT").replaceAll("'[^'\n]+'", "SIGN");
        String[] forbidden = {"\\bthrow\\b", "\\btry\\b", "\\bcatch\\b", "\\bsynchronized\\b", "\\bassert\\b",
            "\\bimport\\b", "\\bpackage\\b", "->", "::", "Exact\\b", "\\bThread\\b", "\\bRandom\\b", "nanoTime",
            "currentTimeMillis", "\\bprotected\\b", "static\\s*\\{", "\\.hashCode\\b", "TEXT\\s*\\+", "\\+\\s*TEXT",
            "\\bNaN\\b", "\\bvolatile\\b", "\\bnative\\b", "\\bvar\\b", "\\[\\]\\[\\]\\["};
        for (String f : forbidden) rule("nothing like " + f, !Pattern.compile(f).matcher(code).find());
        Matcher calls = Pattern.compile("\\b(System|Math|Integer|Long|Arrays|String|StringBuilder)\\.(\\w+)").matcher(code);
        Set<String> listed = Set.of("System.arraycopy", "Math.max", "Math.min", "Math.abs", "Math.floorMod",
                "Math.floorDiv", "Integer.bitCount", "Integer.numberOfTrailingZeros");
        while (calls.find()) rule(calls.group() + " is listed", listed.contains(calls.group()));
    }

    /** Every method ends within sixty lines; methods stand at one or two levels of this file's layout. */
    private static void checkMethodLengths(String source) {
        String[] lines = source.split("\n");
        for (int i = 0; i < lines.length; i++) {
            boolean outer = lines[i].matches(" {4}[a-z].*\\) \\{");
            boolean inner = lines[i].matches(" {8}[a-zA-Z].*\\) \\{") && !lines[i].trim().matches("(if|for|while|switch|\\}).*");
            if (!outer && !inner) continue;
            String close = outer ? "    }" : "        }";
            int end = i;
            while (end < lines.length - 1 && !lines[end].equals(close)) end++;
            rule("line " + (i + 1) + ": a method of " + (end - i + 1) + " lines", end - i + 1 <= 60);
        }
    }
}
