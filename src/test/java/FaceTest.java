import java.lang.reflect.Constructor;
import java.lang.reflect.Field;
import java.lang.reflect.Method;
import java.lang.reflect.Modifier;
import java.nio.file.Files;
import java.nio.file.Path;
import java.util.Arrays;
import java.util.List;
import java.util.Set;
import java.util.TreeSet;

/** The public face, to the letter, and those rules of LANGUAGE.md that can be seen from outside or by a look at the text. */
public final class FaceTest {
    private static final Due DUE = new Due("FaceTest");
    private static final String METHODS = "feed1 coast0 person2 as2 wrong2 carry2 lend2 sin3 harden2 pass0 undo0 image1 restore1 said2 "
        + "comes2 least2 match1 chain2 reach2 plan2 gusts4 decades3 sheet3 drop1 item4 copy5 log4 skills6 kinds6 count1";
    private static final String CONSTANTS = "BAD-1 NOT-2 FULL-3 NONE-4 NULL-11 CAST-12 INDEX-13 SIZE-14";

    public static void main(String[] args) throws Exception {
        methods();
        constants();
        constructors();
        text();
        DUE.end();
    }

    private static void alike(String what, Set<String> got, String want) {
        DUE.holds(what + " " + got + ", due " + want, got.equals(new TreeSet<>(Arrays.asList(want.split(" ")))));
    }

    private static void methods() {
        Set<String> open = new TreeSet<>();
        for (Method m : RivalSorry.class.getDeclaredMethods()) {
            boolean isPrivate = Modifier.isPrivate(m.getModifiers());
            DUE.holds("a private method bears a public name: " + m, !isPrivate || !METHODS.matches("(.* )?" + m.getName() + "\\d( .*)?"));
            if (isPrivate) {
                continue;
            }
            open.add(m.getName() + m.getParameterCount());
            boolean isItem = m.getName().equals("item");
            DUE.holds("answer of " + m, m.getReturnType() == (isItem ? long.class : int.class));
            for (int i = 0; i < m.getParameterCount(); i++) {
                DUE.holds("parameter of " + m, m.getParameterTypes()[i] == (isItem && i == 3 ? long.class : int.class));
            }
            DUE.is("modifiers of " + m, m.getModifiers(), Modifier.PUBLIC);
        }
        alike("methods", open, METHODS);
    }

    private static void constants() throws Exception {
        Set<String> open = new TreeSet<>();
        for (Field f : RivalSorry.class.getDeclaredFields()) {
            if (Modifier.isStatic(f.getModifiers())) {
                DUE.holds("final: " + f, Modifier.isFinal(f.getModifiers()));
            }
            if (!Modifier.isPrivate(f.getModifiers())) {
                open.add(f.getName() + f.getInt(null));
                DUE.is("modifiers of " + f, f.getModifiers(), Modifier.PUBLIC | Modifier.STATIC | Modifier.FINAL);
            }
        }
        alike("constants", open, CONSTANTS);
    }

    private static void constructors() {
        Constructor<?>[] all = RivalSorry.class.getDeclaredConstructors();
        DUE.is("constructors", all.length, 1);
        DUE.is("its parameters", all[0].getParameterCount(), 0);
        DUE.is("it is public", all[0].getModifiers(), Modifier.PUBLIC);
        DUE.is("the class is public and final", RivalSorry.class.getModifiers(), Modifier.PUBLIC | Modifier.FINAL);
        DUE.holds("at most twelve classes", RivalSorry.class.getDeclaredClasses().length < 12);
        for (Class<?> inside : RivalSorry.class.getDeclaredClasses()) {
            DUE.holds("static: " + inside, Modifier.isStatic(inside.getModifiers()));
            DUE.holds("not open: " + inside, !Modifier.isPublic(inside.getModifiers()) && !Modifier.isProtected(inside.getModifiers()));
        }
    }

    private static void text() throws Exception {
        List<String> banned = List.of("throw", "try", "catch", "synchronized", "assert", "(?s)static\\s*\\{", "->", "::", "package");
        String text = Files.readString(Path.of("src/main/java/RivalSorry.java")).replaceAll("(?s)/\\*.*?\\*/|//[^\n]*", "");
        for (String word : banned) {
            String pattern = Character.isLetter(word.charAt(0)) ? "\\b" + word + "\\b" : word;
            DUE.holds("has " + word, !java.util.regex.Pattern.compile(pattern).matcher(text).find());
        }
        DUE.holds("has a function that throws on overflow", text.indexOf("Exact(") < 0);
        DUE.holds("imports", text.replace("import java.util.Arrays;", "").indexOf("import ") < 0);
    }
}
