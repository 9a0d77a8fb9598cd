import java.io.IOException;
import java.lang.reflect.Constructor;
import java.lang.reflect.Field;
import java.lang.reflect.Method;
import java.lang.reflect.Modifier;
import java.nio.file.Files;
import java.nio.file.Path;
import java.util.Set;
import java.util.TreeSet;
import java.util.regex.Matcher;
import java.util.regex.Pattern;

/** The document's face, and what of LANGUAGE.md can be read off the class and its source. */
public final class FaceTest {
    private static final Due due = new Due();
    private static final String FACE = "tie(int,int,int,int)int one(int,int,int)int law(int,int)int say(int)int wipe()int "
        + "fault()int judge(int)int behind(int,int)int city(int)int taken(int)int done()int stays(int)int keep(int,int)int "
        + "loose(int,int)int seats(int,int)int calls(int,int)long order(int)int rung(int,boolean)int forget()int who()int "
        + "ring(int)int answers(int,int,int,int)long number(int,int)int year(int,int,int)int image(int)int restore(int)int "
        + "told(int)int";

    public static void main(String[] args) throws Exception {
        constants();
        methods();
        members();
        source();
        due.end();
    }

    private static void constants() {
        due.is("UNKNOWN", LastTrain.UNKNOWN, -1);
        due.is("OUTSIDE", LastTrain.OUTSIDE, -2);
        due.is("STATE", LastTrain.STATE, -3);
        due.is("FULL", LastTrain.FULL, -4);
        due.is("NO", LastTrain.NO, -5);
        due.is("NONE", LastTrain.NONE, -6);
        due.is("GONE", LastTrain.GONE, -1000000000000000000L);
    }

    private static String told(Method method) {
        StringBuilder text = new StringBuilder(method.getName()).append('(');
        for (Class<?> parameter : method.getParameterTypes()) {
            text.append(text.charAt(text.length() - 1) == '(' ? "" : ",").append(parameter.getName());
        }
        return text.append(')').append(method.getReturnType().getName()).toString();
    }

    private static void methods() {
        Set<String> open = new TreeSet<>();
        Set<String> names = new TreeSet<>();
        for (Method method : LastTrain.class.getDeclaredMethods()) {
            if (!Modifier.isPrivate(method.getModifiers()) && !method.isSynthetic()) {
                open.add(told(method));
                names.add(method.getName());
                due.is(method.getName() + " is public", method.getModifiers(), Modifier.PUBLIC);
            }
        }
        due.isText("methods", open.toString(), new TreeSet<>(Set.of(FACE.split(" "))).toString());
        hiddenNames(LastTrain.class, names);
        for (Class<?> inside : LastTrain.class.getDeclaredClasses()) {
            hiddenNames(inside, names);
            due.is(inside + " is static", inside.getModifiers() & Modifier.STATIC, Modifier.STATIC);
            due.is(inside + " is not open", inside.getModifiers() & (Modifier.PUBLIC | Modifier.PROTECTED), 0);
        }
    }

    private static void hiddenNames(Class<?> where, Set<String> names) {
        for (Method method : where.getDeclaredMethods()) {
            boolean hidden = where != LastTrain.class || Modifier.isPrivate(method.getModifiers());
            due.is(where + " " + method.getName() + " bears a public name", hidden && names.contains(method.getName()) ? 1 : 0, 0);
            due.is(where + " " + method.getName() + " has too many parameters", method.getParameterCount() > 7 ? 1 : 0, 0);
        }
    }

    private static void members() {
        Set<String> open = new TreeSet<>();
        for (Field field : LastTrain.class.getDeclaredFields()) {
            if (!Modifier.isPrivate(field.getModifiers())) {
                open.add(field.getName());
            }
            if (Modifier.isStatic(field.getModifiers())) {
                due.is(field.getName() + " is final", field.getModifiers() & Modifier.FINAL, Modifier.FINAL);
            }
        }
        due.isText("fields", open.toString(), "[FULL, GONE, NO, NONE, OUTSIDE, STATE, UNKNOWN]");
        Constructor<?>[] made = LastTrain.class.getDeclaredConstructors();
        due.is("constructors", made.length, 1);
        due.is("the constructor is public", made[0].getModifiers(), Modifier.PUBLIC);
        due.is("the class is public and final", LastTrain.class.getModifiers(), Modifier.PUBLIC | Modifier.FINAL);
    }

    private static void source() throws IOException {
        String text = Files.readString(Path.of("src/main/java/LastTrain.java"));
        String bare = text.replaceAll("(?s)/\\*.*?\\*/", "").replaceAll("//.*", "");
        Matcher banned = Pattern.compile("\\b(throw|throws|try|catch|synchronized|assert|import|package|instanceof|"
            + "equals|hashCode|toString|while|volatile|transient|native|strictfp)\\b|->|::|Exact\\b").matcher(bare);
        while (banned.find()) {
            due.isText("the source says", banned.group(), "");
        }
        for (char sign : text.toCharArray()) {
            if (sign > 126) {
                due.is("a sign of the source", sign, 126);
            }
        }
    }
}
