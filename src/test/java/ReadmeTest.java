import java.io.IOException;
import java.lang.reflect.Method;
import java.lang.reflect.Modifier;
import java.nio.file.Files;
import java.nio.file.Path;
import java.util.ArrayList;
import java.util.List;
import java.util.Map;
import java.util.Set;
import java.util.TreeMap;
import java.util.TreeSet;
import java.util.function.Supplier;
import java.util.regex.Matcher;
import java.util.regex.Pattern;
import java.util.stream.Stream;

/** What README.md says of the class is so: its table of calls, their refusals, its example, its table of tests. */
public final class ReadmeTest {
    private static final Pattern CALL_ROW = Pattern.compile("^\\| `(\\w+)\\(([^)]*)\\)` \\|(.*)\\|([^|]*)\\|$");
    private static final Pattern EXAMPLE = Pattern.compile("^train\\.(\\w+)\\(([^)]*)\\); +// ([A-Z0-9-]+(?: \\+ [A-Z]+)?)(?:: .*)?$");
    private static final Pattern TEST_ROW = Pattern.compile("^\\| `(\\w+Test)` \\| .* \\|$");
    private static final Pattern ANSWER_ROW = Pattern.compile("^\\| `([A-Z]+)` \\| (-\\d+) \\| .* \\|$");
    private static final Pattern ACT_ROW = Pattern.compile("^\\| `([A-J].{1,2}|[.~])` \\| .* \\|$");
    private static final Pattern WORD = Pattern.compile("`(UNKNOWN|OUTSIDE|STATE|FULL|NO|NONE|GONE)`");
    private static final int[] NUMBERS = {-1, 0, 1, 2, 3, 100, 200};
    private static final Set<String> CHANGING = Set.of("tie", "one", "law", "say", "wipe", "done", "rung", "forget",
        "image", "restore");

    private static final Due due = new Due();

    public static void main(String[] args) throws Exception {
        List<String> page = Files.readAllLines(Path.of("README.md"));
        everyCall(page);
        whoChanges(page);
        acts(page);
        answers(page);
        example(page);
        tests(page);
        due.end();
    }

    private static Map<String, Method> face() {
        Map<String, Method> face = new TreeMap<>();
        for (Method method : LastTrain.class.getDeclaredMethods()) {
            if (Modifier.isPublic(method.getModifiers())) {
                face.put(method.getName(), method);
            }
        }
        return face;
    }

    // ---- the table of calls

    private static void everyCall(List<String> page) throws ReflectiveOperationException {
        Map<String, Method> face = face();
        Set<String> met = new TreeSet<>();
        for (String line : page) {
            Matcher row = CALL_ROW.matcher(line);
            if (row.matches() && face.containsKey(row.group(1))) {
                Method method = face.get(row.group(1));
                due.is(method.getName() + " has one row", met.add(method.getName()) ? 1 : 2, 1);
                int parameters = row.group(2).isEmpty() ? 0 : row.group(2).split(", ").length;
                due.is("parameters of " + method.getName(), parameters, method.getParameterCount());
                Set<String> answered = answered(method);
                due.is(method.getName() + " tells NONE", words(row.group(3)).contains("NONE") ? 1 : 0, answered.remove("NONE") ? 1 : 0);
                due.isText(method.getName() + " is refused with", words(row.group(4)).toString(), answered.toString());
            }
        }
        due.isText("calls of the page", met.toString(), face.keySet().toString());
    }

    private static Set<String> words(String text) {
        Set<String> words = new TreeSet<>();
        Matcher word = WORD.matcher(text);
        while (word.find()) {
            words.add(word.group(1));
        }
        return words;
    }

    private static List<Supplier<LastTrain>> states() {
        return List.of(LastTrain::new, () -> Lived.made(""), () -> Lived.made("B>."), () -> Lived.made("A+"),
            () -> Lived.made(".."), () -> Lived.made("Ad".repeat(30)), ReadmeTest::fullOfSights, ReadmeTest::withADog);
    }

    private static LastTrain fullOfSights() {
        LastTrain x = new LastTrain();
        for (int sight = 0; sight < 8; sight++) {
            x.rung(0, true);
        }
        return x;
    }

    private static LastTrain withADog() {
        LastTrain x = new LastTrain();
        x.one(0, 1, 1);
        return x;
    }

    /** The words for all that is no plain answer, by such numbers in such states. */
    private static Set<String> answered(Method method) throws ReflectiveOperationException {
        Set<String> words = new TreeSet<>();
        int count = method.getParameterCount();
        int all = (int) Math.pow(NUMBERS.length, count);
        for (Supplier<LastTrain> state : states()) {
            for (int drawn = 0; drawn < all; drawn++) {
                Object[] arguments = new Object[count];
                for (int i = 0, left = drawn; i < count; i++, left /= NUMBERS.length) {
                    int number = NUMBERS[left % NUMBERS.length];
                    arguments[i] = method.getParameterTypes()[i] == boolean.class ? (Object) (number > 0) : (Object) number;
                }
                long answer = ((Number) method.invoke(state.get(), arguments)).longValue();
                if (method.getReturnType() == long.class && answer < 0) {
                    words.add("GONE");
                    answer -= LastTrain.GONE;
                }
                if (answer < 0) {
                    words.add(wordOf((int) answer));
                }
            }
        }
        return words;
    }

    private static String wordOf(int answer) throws ReflectiveOperationException {
        for (String word : List.of("UNKNOWN", "OUTSIDE", "STATE", "FULL", "NO", "NONE")) {
            if (LastTrain.class.getField(word).getInt(null) == answer) {
                return word;
            }
        }
        return "no word: " + answer;
    }

    private static void whoChanges(List<String> page) throws ReflectiveOperationException {
        String text = String.join(" ", page);
        int from = text.indexOf("Only `tie`");
        int to = text.indexOf("change anything");
        due.is("the page says who changes", from >= 0 && to > from ? 1 : 0, 1);
        Set<String> said = new TreeSet<>();
        Matcher name = Pattern.compile("`(\\w+)`").matcher(text.substring(Math.max(0, from), Math.max(0, to)));
        while (name.find()) {
            said.add(name.group(1));
        }
        due.isText("who changes", said.toString(), new TreeSet<>(CHANGING).toString());
    }

    // ---- the table of acts

    private static void acts(List<String> page) {
        List<String> met = new ArrayList<>();
        for (String line : page) {
            Matcher row = ACT_ROW.matcher(line);
            if (row.matches()) {
                met.add(row.group(1));
                due.is("fault of " + row.group(1), Due.months(row.group(1)).fault(), LastTrain.NONE);
            }
        }
        due.isText("acts in the document's order", met.toString(), "[A+B, A-B, A$B, Ad, A>, ., ~]");
    }

    // ---- what refused calls answer

    private static void answers(List<String> page) throws ReflectiveOperationException {
        List<String> met = new ArrayList<>();
        for (String line : page) {
            Matcher row = ANSWER_ROW.matcher(line);
            if (row.matches()) {
                met.add(row.group(1));
                due.is(row.group(1), Integer.parseInt(row.group(2)), LastTrain.class.getField(row.group(1)).getInt(null));
            }
        }
        due.isText("refusals in the document's order", met.toString(), "[UNKNOWN, OUTSIDE, NO, STATE, FULL]");
        String text = String.join(" ", page);
        due.is("GONE", text.contains("`GONE`, " + LastTrain.GONE + ".") ? 1 : 0, 1);
        due.is("NONE", text.contains("`NONE`, " + LastTrain.NONE + ",") ? 1 : 0, 1);
    }

    // ---- the example

    private static void example(List<String> page) throws ReflectiveOperationException {
        Map<String, Method> face = face();
        LastTrain train = new LastTrain();
        int asked = 0;
        for (String line : page) {
            Matcher told = EXAMPLE.matcher(line);
            if (line.startsWith("train.") && told.matches() && face.containsKey(told.group(1))) {
                Method method = face.get(told.group(1));
                String[] texts = told.group(2).isEmpty() ? new String[0] : told.group(2).split(", ");
                Object[] arguments = new Object[texts.length];
                for (int i = 0; i < texts.length; i++) {
                    arguments[i] = argument(texts[i]);
                }
                long got = ((Number) method.invoke(train, arguments)).longValue();
                due.is(line, got, number(told.group(3)));
                asked++;
            } else {
                due.is("a row of the example: " + line, line.startsWith("train.") ? 1 : 0, 0);
            }
        }
        due.is("the page has an example", asked >= 20 ? 1 : 0, 1);
    }

    private static Object argument(String text) {
        if (text.equals("true") || text.equals("false")) {
            return text.equals("true");
        }
        return text.startsWith("'") ? (Object) (int) text.charAt(1) : (Object) Integer.parseInt(text);
    }

    private static long number(String text) throws ReflectiveOperationException {
        long sum = 0;
        for (String part : text.split(" \\+ ")) {
            sum += Character.isLetter(part.charAt(0)) ? LastTrain.class.getField(part).getLong(null) : Long.parseLong(part);
        }
        return sum;
    }

    // ---- the table of tests

    private static void tests(List<String> page) throws IOException {
        Set<String> named = new TreeSet<>();
        for (String line : page) {
            Matcher row = TEST_ROW.matcher(line);
            if (row.matches()) {
                named.add(row.group(1));
            }
        }
        Set<String> there = new TreeSet<>();
        try (Stream<Path> files = Files.list(Path.of("src/test/java"))) {
            files.map(file -> file.getFileName().toString()).filter(name -> name.endsWith("Test.java"))
                .forEach(name -> there.add(name.substring(0, name.length() - ".java".length())));
        }
        due.isText("tests of the page", named.toString(), there.toString());
    }
}
