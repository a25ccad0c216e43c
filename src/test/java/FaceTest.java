import java.io.IOException;
import java.lang.reflect.Constructor;
import java.lang.reflect.Field;
import java.lang.reflect.Method;
import java.lang.reflect.Modifier;
import java.nio.file.Files;
import java.nio.file.Path;
import java.util.Set;
import java.util.TreeSet;
import java.util.regex.Pattern;

/** The public face as the document has it, and what LANGUAGE.md rules out that can be seen from outside. */
public final class FaceTest {
    private static final String FACE = "feed(int) town() told(int) person(int,int) of(int,int) row(int,int)"
        + " note(int,boolean) yesterday(int) by(int,int,int,int) day(int,int) all(int)"
        + " once(int,int,int,int) again(int,int) morning() year(int,int) bet(int,int,int) sure()"
        + " secret(int,int) swap(int) book(int) looked(int) act(int,int,int) trace(int) as(int,int)"
        + " image() undo() count(int)";

    public static void main(String[] args) throws IOException {
        face();
        inside();
        text(Files.readString(Path.of("src/main/java/DayKnown.java")));
        Due.end();
    }

    private static void face() {
        Set<String> found = new TreeSet<>();
        for (Method method : DayKnown.class.getDeclaredMethods()) {
            if (!Modifier.isPrivate(method.getModifiers())) {
                Due.holds(method + " is public alone", method.getModifiers() == Modifier.PUBLIC);
                Due.holds(method + " answers an int", method.getReturnType() == int.class);
                StringBuilder types = new StringBuilder();
                for (Class<?> type : method.getParameterTypes()) {
                    types.append(types.length() > 0 ? "," : "").append(type.getName());
                }
                found.add(method.getName() + "(" + types + ")");
            }
        }
        Due.holds("the methods are " + found, found.equals(new TreeSet<>(Set.of(FACE.split(" ")))));
        Constructor<?>[] constructors = DayKnown.class.getDeclaredConstructors();
        Due.is("constructors", constructors.length, 1);
        Due.is("parameters", constructors[0].getParameterCount(), 0);
        Due.is("NONE", DayKnown.NONE, -1);
        Due.is("BAD", DayKnown.BAD, -2);
        Due.is("STATE", DayKnown.STATE, -3);
        Due.is("FULL", DayKnown.FULL, -4);
    }

    private static void inside() {
        Set<String> names = new TreeSet<>();
        for (Method method : DayKnown.class.getDeclaredMethods()) {
            if (Modifier.isPublic(method.getModifiers())) {
                names.add(method.getName());
            }
        }
        Set<String> open = new TreeSet<>();
        for (Field field : DayKnown.class.getDeclaredFields()) {
            if (!Modifier.isPrivate(field.getModifiers())) {
                open.add(field.getName());
            }
        }
        Due.holds("the open fields are " + open, open.equals(Set.of("NONE", "BAD", "STATE", "FULL")));
        Due.holds("at most twelve classes", DayKnown.class.getDeclaredClasses().length < 12);
        privateNames(DayKnown.class, names);
        for (Class<?> one : DayKnown.class.getDeclaredClasses()) {
            Due.holds(one + " is static", Modifier.isStatic(one.getModifiers()));
            allPrivate(one);
            privateNames(one, names);
        }
    }

    private static void allPrivate(Class<?> in) {
        for (Method method : in.getDeclaredMethods()) {
            Due.holds(method + " is private", Modifier.isPrivate(method.getModifiers()));
        }
        for (Field field : in.getDeclaredFields()) {
            Due.holds(field + " is private", Modifier.isPrivate(field.getModifiers()));
        }
        for (Constructor<?> made : in.getDeclaredConstructors()) {
            Due.holds(made + " is private", Modifier.isPrivate(made.getModifiers()));
        }
    }

    private static void privateNames(Class<?> in, Set<String> names) {
        for (Method method : in.getDeclaredMethods()) {
            Due.holds(method + " has a name of its own",
                Modifier.isPublic(method.getModifiers()) || !names.contains(method.getName()));
            Due.holds(method + " takes seven at most", method.getParameterCount() <= 7);
        }
        for (Field field : in.getDeclaredFields()) {
            Due.holds(field + " is final, if static",
                !Modifier.isStatic(field.getModifiers()) || Modifier.isFinal(field.getModifiers()));
        }
    }

    private static void text(String source) {
        String code = source.replaceAll("(?s)/\\*.*?\\*/", "").replaceAll("//[^\n]*", "");
        String[] out = {"\\b(throw|throws|try|catch|synchronized|assert|import|package|instanceof|protected)\\b",
            "->", "::", "\\b(Random|Thread|equals|hashCode|toString)\\b", "Exact\\b", "\\bstatic\\s*\\{"};
        for (String one : out) {
            Due.holds("there is no " + one, !Pattern.compile(one).matcher(code).find());
        }
        // All rows are made in constructors and initialisers, so that calls make nothing.
        for (String line : code.split("\n")) {
            boolean isMade = line.contains("= new ");
            Due.holds("a field or the constructor makes:" + line,
                !line.contains("new ") || isMade && (line.contains("private final") || line.contains("towns[i]")));
        }
    }
}
