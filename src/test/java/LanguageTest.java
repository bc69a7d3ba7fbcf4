import java.io.IOException;
import java.lang.reflect.Constructor;
import java.lang.reflect.Field;
import java.lang.reflect.Method;
import java.lang.reflect.Modifier;
import java.nio.file.Files;
import java.nio.file.Path;
import java.util.Set;
import java.util.TreeSet;

/** What can be seen of LANGUAGE.md from outside: the face, and words that may not stand in the source. */
final class LanguageTest {
    private static final String FACE = "aside(int,int,int,int) at(int,int,int) bargain(int,int,int,int,int,int) "
        + "both(int,int,int,int,int,int) clear() clears(int,int,int,int,int) copy(int,int,int,int,int) count(int) dark(int) "
        + "drop(int) fewest(int,int,int) ground(int,int) image() item(int,int,int,long) make(int,int,int) "
        + "market(int,int,int,int) means(int,int,int,int) meant(int,int,int) meets(int,int,int,int) "
        + "misread(int,int,int,int) person(int,int) restore() rule(int,int) says(int,int) share(int,int,int,int) "
        + "sheet(int,int,int) stall(int,int) stood(int) talk() thing(int,int,int) things() type(long,int) "
        + "walk(int,int,int) when(int,int,int,int)";
    private static final Due due = new Due();

    public static void main(String[] args) throws IOException {
        Class<?> face = PointingArms.class;
        due.is("public", Modifier.isPublic(face.getModifiers()) ? 1 : 0, 1);
        due.is("final", Modifier.isFinal(face.getModifiers()) ? 1 : 0, 1);
        methods(face);
        fields(face);
        constants(face);
        for (Constructor<?> constructor : face.getDeclaredConstructors()) {
            due.is("constructor without parameters", constructor.getParameterCount(), 0);
        }
        due.is("at most twelve classes", face.getDeclaredClasses().length < 12 ? 1 : 0, 1);
        for (Class<?> inside : face.getDeclaredClasses()) {
            inside(inside);
        }
        source(args.length > 0 ? args[0] : "src/main/java/PointingArms.java");
        due.end();
    }

    private static void methods(Class<?> face) {
        Set<String> seen = new TreeSet<>();
        Set<String> publicNames = new TreeSet<>();
        Set<String> privateNames = new TreeSet<>();
        for (Method method : face.getDeclaredMethods()) {
            if (Modifier.isPrivate(method.getModifiers())) {
                privateNames.add(method.getName());
                continue;
            }
            due.is(method.getName() + " is public", Modifier.isPublic(method.getModifiers()) ? 1 : 0, 1);
            due.is(method.getName() + " answers an int", method.getReturnType() == int.class ? 1 : 0, 1);
            publicNames.add(method.getName());
            StringBuilder text = new StringBuilder(method.getName()).append('(');
            for (Class<?> type : method.getParameterTypes()) {
                text.append(text.charAt(text.length() - 1) == '(' ? "" : ",").append(type.getName());
            }
            seen.add(text.append(')').toString());
        }
        due.is("the face is " + seen, String.join(" ", seen).equals(FACE) ? 1 : 0, 1);
        privateNames.retainAll(publicNames);
        due.is("private names that are public ones: " + privateNames, privateNames.size(), 0);
    }

    private static void fields(Class<?> type) {
        int own = 0;
        for (Field field : type.getDeclaredFields()) {
            int how = field.getModifiers();
            if (Modifier.isStatic(how)) {
                due.is(field.getName() + " is final", Modifier.isFinal(how) ? 1 : 0, 1);
            } else {
                own++;
            }
            boolean isShown = !Modifier.isPrivate(how) && type == PointingArms.class;
            boolean isConstant = Modifier.isPublic(how) && Modifier.isStatic(how) && field.getType() == int.class;
            due.is(field.getName() + " is hidden or a constant", !isShown || isConstant ? 1 : 0, 1);
        }
        due.is("at most twenty fields in " + type.getName(), own <= 20 ? 1 : 0, 1);
    }

    /** The face has these constants and no others. */
    private static void constants(Class<?> face) {
        Set<String> seen = new TreeSet<>();
        for (Field field : face.getFields()) {
            seen.add(field.getName());
        }
        due.is("the constants are " + seen, seen.toString().equals("[BAD, CAST, FULL, INDEX, NONE, NOT, NULL, SIZE]") ? 1 : 0, 1);
        due.is("BAD", PointingArms.BAD, -1);
        due.is("NOT", PointingArms.NOT, -2);
        due.is("FULL", PointingArms.FULL, -3);
        due.is("NONE", PointingArms.NONE, -4);
        due.is("NULL", PointingArms.NULL, -11);
        due.is("CAST", PointingArms.CAST, -12);
        due.is("INDEX", PointingArms.INDEX, -13);
        due.is("SIZE", PointingArms.SIZE, -14);
    }

    private static void inside(Class<?> inside) {
        int how = inside.getModifiers();
        due.is(inside.getName() + " is static", Modifier.isStatic(how) ? 1 : 0, 1);
        due.is(inside.getName() + " is not shown", Modifier.isPublic(how) || Modifier.isProtected(how) ? 1 : 0, 0);
        fields(inside);
        for (Method method : inside.getDeclaredMethods()) {
            due.is(method.getName() + " takes few", method.getParameterCount() <= 7 ? 1 : 0, 1);
            due.is(method.getName() + " is not of the face", FACE.contains(" " + method.getName() + "(") ? 1 : 0, 0);
        }
    }

    private static void source(String path) throws IOException {
        String text = Files.readString(Path.of(path)).replaceAll("(?s)/\\*.*?\\*/", "").replaceAll("//[^\n]*", "");
        for (String word : new String[] {"import", "package", "try", "catch", "throw", "finally", "synchronized", "assert",
            "double", "float", "Exact", "->", "::", "System.out", "hashCode", "toString", "instanceof", "var"}) {
            String pattern = Character.isLetter(word.charAt(0)) ? "(?s).*\\b" + word + "\\b.*" : "(?s).*" + word + ".*";
            due.is("'" + word + "' in the source", text.matches(pattern) ? 1 : 0, 0);
        }
        int lines = 0;
        String name = "";
        for (String line : text.split("\n")) {
            if (line.matches("( {4}| {8})[^ ].*\\) \\{")) {
                name = line.trim();
                lines = 0;
            }
            lines++;
            if (line.matches("( {4}| {8})\\}")) {
                due.is("some sixty lines: " + name, lines <= 60 ? 1 : 0, 1);
            }
        }
    }
}
