import java.lang.reflect.Constructor;
import java.lang.reflect.Field;
import java.lang.reflect.Method;
import java.lang.reflect.Modifier;
import java.nio.charset.StandardCharsets;
import java.nio.file.Files;
import java.nio.file.Path;
import java.util.Arrays;
import java.util.Set;
import java.util.TreeSet;
import java.util.regex.Matcher;
import java.util.regex.Pattern;

/** The public face, and those rules of LANGUAGE.md that can be read off the class and its source text. */
public final class FaceTest {
    private static final Check CHECK = new Check();
    private static final Path SOURCE = Path.of("src/main/java/KiteRoofs.java");
    private static final String FACE = "about(int)int ask(int,int)int back(int)int best(int,int)int boy(int,int)int calm(int)int "
        + "crew(int)int downs(int,int)int end(int)int fault(int)int feed(int,int,int,int,int)int fewest(int,int)int "
        + "fly(int,int)int force(int,int)int give(int,int)int guard(int)int hour()int image(int)int kite(int,int)int "
        + "later(int)int law(int)int lend()int lies(int)int mend(int)int near(int,int)int odds(int,int,int)int "
        + "redo()boolean roof(int,int)int spots(int)int stolen(int,boolean)int sure(int)int tie(int)int town()int undo()boolean "
        + "untell(int)boolean up()int will(int)int";

    public static void main(String[] args) throws Exception {
        members();
        classesInside();
        source();
        everyArgumentIsAnswered();
        CHECK.finish("FaceTest");
    }

    private static void members() {
        Class<?> face = KiteRoofs.class;
        CHECK.due("public and final", Modifier.isPublic(face.getModifiers()) && Modifier.isFinal(face.getModifiers()), true);
        Set<String> found = new TreeSet<>();
        for (Method m : face.getDeclaredMethods()) {
            if (!Modifier.isPrivate(m.getModifiers()) && !m.isSynthetic()) {
                CHECK.due(m + " is public", Modifier.isPublic(m.getModifiers()), true);
                String types = Arrays.toString(m.getParameterTypes()).replaceAll("[\\[\\] ]", "");
                found.add(m.getName() + "(" + types + ")" + m.getReturnType());
            }
        }
        CHECK.due("the face " + found, found.equals(new TreeSet<>(Arrays.asList(FACE.split(" ")))), true);
        for (Field f : face.getDeclaredFields()) {
            CHECK.due(f + " is private", Modifier.isPrivate(f.getModifiers()) || f.getName().equals("NONE"), true);
        }
        Constructor<?>[] constructors = face.getDeclaredConstructors();
        CHECK.due("one constructor", constructors.length, 1);
        CHECK.due("without parameters", constructors[0].getParameterCount(), 0);
        CHECK.due("public", Modifier.isPublic(constructors[0].getModifiers()), true);
    }

    private static void classesInside() {
        Class<?>[] inside = KiteRoofs.class.getDeclaredClasses();
        CHECK.due("at most twelve classes", inside.length <= 11, true);
        Set<String> open = new TreeSet<>();
        for (String call : FACE.split(" ")) {
            open.add(call.substring(0, call.indexOf('(')));
        }
        for (Method m : KiteRoofs.class.getDeclaredMethods()) {
            CHECK.due(m + " bears no public name", Modifier.isPublic(m.getModifiers()) || !open.contains(m.getName()), true);
        }
        for (Class<?> c : inside) {
            CHECK.due(c + " is static", Modifier.isStatic(c.getModifiers()), true);
            int fields = 0;
            for (Field f : c.getDeclaredFields()) {
                boolean still = Modifier.isStatic(f.getModifiers());
                CHECK.due(f + " is final", !still || Modifier.isFinal(f.getModifiers()), true);
                fields += still ? 0 : 1;
            }
            CHECK.due(c + " has some twenty fields", fields <= 20, true);
            for (Method m : c.getDeclaredMethods()) {
                CHECK.due(m + " bears no public name", open.contains(m.getName()), false);
                CHECK.due(m + " takes seven at most", m.getParameterCount() <= 7, true);
            }
        }
    }

    private static void source() throws Exception {
        String text = Files.readString(SOURCE, StandardCharsets.ISO_8859_1);
        String code = text.replaceAll("(?s)/\\*.*?\\*/", " ").replaceAll("//[^\n]*", " ").replaceAll("'(\\\\.|[^'])'", "0");
        String[] barred = {"throw", "throws", "try", "catch", "synchronized", "assert", "import", "package", "protected",
            "->", "::", "Exact", "hashCode", "toString", "NaN", "yield"};
        for (String word : barred) {
            String pattern = Character.isLetter(word.charAt(0)) ? "\\b\\w*" + word + "\\b" : Pattern.quote(word);
            CHECK.due("no " + word, Pattern.compile(pattern).matcher(code).find(), false);
        }
        Matcher library = Pattern.compile("\\b(System|Integer|Long|Math|Arrays)\\.(\\w+)").matcher(code);
        while (library.find()) {
            CHECK.due(library.group(), "arraycopy max min abs bitCount".contains(library.group(2)), true);
        }
        for (char c : text.toCharArray()) {
            if (c > 126 || c < 32 && c != '\n') {
                CHECK.due("signs of the source", c, '\n');
            }
        }
        int length = 0;
        for (String line : text.split("\n")) {
            boolean begins = line.matches(" +(public |private |static )*\\w+(\\[])? ?\\w*\\(.*\\) \\{")
                && !line.matches(" +(if|for|while|switch|else|return)\\b.*");
            length = begins ? 0 : length + 1;
            CHECK.due("a short method at " + line, length <= 65 || !line.matches(" {4,8}\\}"), true);
        }
    }

    private static void everyArgumentIsAnswered() throws Exception {
        int[] odd = {Integer.MIN_VALUE, -1001, -3, -2, -1, 0, 1, 4, 7, 8, 9, 31, 32, 60, 1600, Integer.MAX_VALUE};
        String town = "roof r at 0 weight 5;kite a of r at 0 size 1 cord 4 height 9;kite b of r at 1 size 1 cord 9 height 1 tied;"
            + "boy t arms 9;holds t a;lift age/(near-1)+hour%(size-1)+9999*9999*9999;";
        for (Method m : KiteRoofs.class.getDeclaredMethods()) {
            if (!Modifier.isPublic(m.getModifiers())) {
                continue;
            }
            int n = m.getParameterCount();
            KiteRoofs empty = new KiteRoofs();
            KiteRoofs full = Check.with(town);
            int combinations = (int) Math.pow(odd.length, Math.min(n, 3));
            for (int i = 0; i < combinations; i++) {
                Object[] given = new Object[n];
                int rest = i;
                for (int p = 0; p < n; p++) {
                    int value = odd[rest % odd.length];
                    given[p] = m.getParameterTypes()[p] == boolean.class ? (Object) (value > 0) : (Object) value;
                    rest /= odd.length;
                }
                m.invoke(empty, given);
                m.invoke(full, given);
            }
            CHECK.due(m.getName(), full.about(99), -1);
        }
    }
}
