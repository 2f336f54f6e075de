import java.lang.reflect.Constructor;
import java.lang.reflect.Field;
import java.lang.reflect.Method;
import java.lang.reflect.Modifier;
import java.nio.file.Files;
import java.nio.file.Path;
import java.util.ArrayList;
import java.util.List;
import java.util.Set;
import java.util.TreeSet;
import java.util.regex.Matcher;
import java.util.regex.Pattern;

/** The public face, and those rules of LANGUAGE.md that can be seen without running the class. */
public final class FlyFloorLanguage {
    private static final String SOURCE = "src/main/java/FlyFloor.java";
    private static final String[] FACE = {
        "int loft(int,int,int,int)", "int ofBatten(int,int)", "int seen()", "int hides(int)",
        "int hire(int)", "int trim(int)", "int fly(int,int)", "int cue(int,int,int,int)",
        "int hang(int,int)", "int brick(int,int)", "int undo()", "int keep(int)",
        "int restore(int)", "int act(int,int,int,int,int)", "int picture(int,int)",
        "int split(int,int,int,int,int)", "int crew(int,int,int,int)", "int balance(int,int)",
        "int reading(int,int,int)", "int back(int)", "int loads(int)", "int weights(int)",
        "int kinds(int)", "long odds(int,int)", "int sheet(int,int,int)", "int lose(int)",
        "int put(int,int,int)", "long cell(int,int,int)", "int copy(int,int,int,int,int)",
        "int tell(int)", "int call(int)", "int as(int,int)", "int trace()", "int fault()",
        "int many(int)",
    };
    private static final String[] RULED_OUT = {
        "throw", "throws", "try", "catch", "finally", "synchronized", "assert", "import",
        "protected", "volatile", "native", "var", "Object", "Exception", "->", "::", "Exact\\(",
    };

    /** What the class uses of what rule 4 leaves; Long.MIN_VALUE stands in the document's face. */
    private static final String[] LIBRARY = {
        "Math.abs", "Math.max", "Math.min", "System.arraycopy", "Long.MIN_VALUE",
    };

    private static int wrong = 0;

    private static void require(boolean holds, String what) {
        if (!holds) {
            wrong++;
            System.out.println(what);
        }
    }

    private static String signature(Method m) {
        List<String> types = new ArrayList<>();
        for (Class<?> type : m.getParameterTypes()) {
            types.add(type.getName());
        }
        return m.getReturnType().getName() + " " + m.getName() + "(" + String.join(",", types) + ")";
    }

    private static void face() {
        Set<String> open = new TreeSet<>();
        Set<String> names = new TreeSet<>();
        for (Method m : FlyFloor.class.getDeclaredMethods()) {
            if (Modifier.isPublic(m.getModifiers())) {
                open.add(signature(m));
                names.add(m.getName());
                require(!Modifier.isStatic(m.getModifiers()), "static: " + m);
            }
        }
        require(open.equals(new TreeSet<>(List.of(FACE))), "the face is another one: " + open);
        for (Method m : FlyFloor.class.getDeclaredMethods()) {
            int mods = m.getModifiers();
            require(Modifier.isPublic(mods) || Modifier.isPrivate(mods), "neither public nor private: " + m);
            require(Modifier.isPublic(mods) || !names.contains(m.getName()), "the name of a public one: " + m);
            require(m.getParameterCount() <= 7, "more than seven parameters: " + m);
        }
        for (Field f : FlyFloor.class.getDeclaredFields()) {
            int mods = f.getModifiers();
            require(Modifier.isPublic(mods) == f.getName().matches("UNKNOWN|OUTSIDE|STATE|FULL|NONE|LOST"),
                "public, or not: " + f);
            require(Modifier.isPublic(mods) || Modifier.isPrivate(mods), "neither public nor private: " + f);
            require(!Modifier.isStatic(mods) || Modifier.isFinal(mods), "static and not final: " + f);
        }
        Constructor<?>[] made = FlyFloor.class.getDeclaredConstructors();
        require(made.length == 1 && made[0].getParameterCount() == 0 && Modifier.isPublic(made[0].getModifiers()),
            "the constructor");
        require(Modifier.isFinal(FlyFloor.class.getModifiers()), "the class is not final");
        require(FlyFloor.class.getDeclaredClasses().length <= 12, "more than twelve classes inside");
        for (Class<?> c : FlyFloor.class.getDeclaredClasses()) {
            inside(c);
        }
    }

    private static void inside(Class<?> c) {
        require(Modifier.isStatic(c.getModifiers()), "not static: " + c);
        require(!Modifier.isPublic(c.getModifiers()) && !Modifier.isProtected(c.getModifiers()), "too open: " + c);
        require(c.getDeclaredClasses().length == 0, "a class inside a class inside: " + c);
        int changing = 0;
        for (Field f : c.getDeclaredFields()) {
            boolean isStatic = Modifier.isStatic(f.getModifiers());
            changing += isStatic ? 0 : 1;
            require(!isStatic || Modifier.isFinal(f.getModifiers()), "static and not final: " + f);
        }
        require(changing <= 20, "more than twenty fields: " + c);
        for (Method m : c.getDeclaredMethods()) {
            require(m.getParameterCount() <= 7, "more than seven parameters: " + m);
        }
    }

    /** What is named as Some.thing is of the list in LANGUAGE.md, or a class inside. */
    private static void library(String code) {
        Set<String> own = new TreeSet<>();
        for (Class<?> c : FlyFloor.class.getDeclaredClasses()) {
            own.add(c.getSimpleName());
        }
        Matcher m = Pattern.compile("\\b([A-Z]\\w*)\\s*\\.\\s*(\\w+)").matcher(code);
        while (m.find()) {
            String used = m.group(1) + "." + m.group(2);
            require(own.contains(m.group(1)) || List.of(LIBRARY).contains(used), "not of the library: " + used);
        }
        require(!code.matches("(?s).*\\bjavax?\\s*\\..*"), "a class by its package");
    }

    private static void words() throws Exception {
        String text = Files.readString(Path.of(SOURCE));
        require(text.chars().allMatch(c -> c == '\n' || c >= 32 && c < 127), "a sign that is not ASCII");
        String code = text.replaceAll("(?s)/\\*.*?\\*/", " ").replaceAll("//[^\n]*", " ");
        for (String word : RULED_OUT) {
            boolean isName = Character.isLetter(word.charAt(0)) && !word.endsWith("(");
            Matcher m = Pattern.compile(isName ? "\\b" + word + "\\b" : word).matcher(code);
            require(!m.find(), "ruled out: " + word);
        }
        library(code);
        Matcher made = Pattern.compile("\\bnew\\b").matcher(code.replaceAll("(?s)public FlyFloor\\(\\).*?\n    }\n", "")
            .replaceAll("(?s)        Past\\(\\).*?\n        }\n", "").replaceAll("final [^;=]*= new [^;]*;", ""));
        require(!made.find(), "an object is made outside a constructor");
    }

    private static void lengths() throws Exception {
        int begun = -1;
        List<String> lines = Files.readAllLines(Path.of(SOURCE));
        for (int k = 0; k < lines.size(); k++) {
            String line = lines.get(k);
            require(line.length() <= 110, "a long line: " + (k + 1));
            if (line.matches("( {4}| {8})[A-Za-z].*\\) \\{")) {
                begun = k;
            }
            if (begun >= 0 && line.matches("( {4}| {8})}")) {
                require(k - begun <= 60, "a long method, from line " + (begun + 1));
                begun = -1;
            }
        }
    }

    public static void main(String[] args) throws Exception {
        face();
        words();
        lengths();
        System.out.println(wrong == 0 ? "the rules are kept" : wrong + " rules are not kept");
        if (wrong != 0) {
            System.exit(1);
        }
    }
}
