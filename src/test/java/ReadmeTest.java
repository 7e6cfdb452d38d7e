import java.io.IOException;
import java.nio.file.Files;
import java.nio.file.Path;
import java.util.ArrayList;
import java.util.HashMap;
import java.util.List;
import java.util.Map;
import java.util.regex.Matcher;
import java.util.regex.Pattern;

/** README.md: its example answers as it says, and what it says of the calls stands in ../shared/DOC.md. */
public final class ReadmeTest {
    private static final Pattern PROMISE = Pattern.compile("(?m)^## Promise \\d+: ");
    private static final Pattern EXAMPLE_LINE = Pattern.compile("store\\.(\\w+)\\(([^)]*)\\);\\s+// ([\\w-]+)");
    private static final Pattern ARGUMENT = Pattern.compile("(?m)^- `(\\w+)`: (.+)$");
    private static final Check check = new Check();

    private static String readme;
    private static String document;

    public static void main(String[] args) throws IOException {
        readme = Files.readString(Path.of("README.md"));
        document = Files.readString(Path.of("../shared/DOC.md"));
        example();
        constants();
        words();
        notPromised();
        calls();
        check.finish("ReadmeTest");
    }

    private static String flat(String text) {
        return text.replaceAll("\\s+", " ").trim();
    }

    // What stands between a heading and the next one.
    private static String section(String heading) {
        int start = readme.indexOf("\n" + heading + "\n");
        if (start < 0) {
            check.report("there is no section " + heading);
            return "";
        }
        int body = start + heading.length() + 2;
        int end = readme.indexOf("\n## ", body);
        return readme.substring(body, end < 0 ? readme.length() : end);
    }

    // A table's rows without its head, each as its cells.
    private static List<String[]> rows(String text) {
        List<String[]> found = new ArrayList<>();
        for (String line : text.split("\n")) {
            if (line.startsWith("| `")) {
                String[] cells = line.substring(1).split("\\|");
                for (int i = 0; i < cells.length; i++) {
                    cells[i] = cells[i].trim();
                }
                found.add(cells);
            }
        }
        return found;
    }

    private static void inDocument(String text) {
        if (!flat(document).contains(flat(text))) {
            check.report("the document does not say: " + flat(text));
        }
    }

    // ---- the example

    private static void example() {
        check.part("the example");
        LedgerStore store = new LedgerStore();
        Matcher line = EXAMPLE_LINE.matcher(section("## An example"));
        int calls = 0;
        while (line.find()) {
            calls++;
            String got = answer(store, line.group(1), line.group(2));
            if (!got.equals(line.group(3))) {
                check.report(line.group(1) + "(" + line.group(2) + ") answers " + got + ", not " + line.group(3));
            }
        }
        check.due("it has calls", calls > 0, true);
    }

    private static String answer(LedgerStore store, String name, String numbers) {
        String[] words = numbers.isEmpty() ? new String[0] : numbers.split(", ");
        Class<?>[] types = new Class<?>[words.length];
        Object[] values = new Object[words.length];
        for (int i = 0; i < words.length; i++) {
            types[i] = int.class;
            values[i] = Integer.valueOf(words[i]);
        }
        try {
            return String.valueOf(LedgerStore.class.getMethod(name, types).invoke(store, values));
        } catch (ReflectiveOperationException e) {
            return e.toString();
        }
    }

    // ---- sentences

    private static void constants() {
        check.part("the constants");
        for (String[] row : rows(section("## The constants"))) {
            String[] names = row[0].replace("`", "").split(", ");
            String[] values = row[1].split(", ");
            for (int i = 0; i < names.length; i++) {
                inDocument(names[i] + " = " + values[i]);
            }
            inDocument("`: " + row[2]);
        }
    }

    private static void words() {
        check.part("the words");
        String list = section("## The words").split("\n\n")[0].substring("\n- ".length());
        for (String item : list.split("\n- ")) {
            int colon = item.indexOf(": ");
            check.due("a word and its sentence in: " + flat(item), colon > 0, true);
            inDocument(item.substring(colon + 1));
        }
    }

    private static void notPromised() {
        check.part("what is not promised");
        inDocument(section("## Not promised"));
    }

    // ---- the calls

    private static void calls() {
        check.part("the calls");
        String text = section("## The calls");
        inDocument(text.substring(0, text.indexOf("The arguments:")));
        for (String item : text.substring(text.indexOf("The values of `digest()`:")).split("\n- ")) {
            if (!item.startsWith("The values")) {
                inDocument(item);
            }
        }
        Map<String, String[]> told = new HashMap<>();
        for (String[] row : rows(text.substring(text.indexOf("### Nodes")))) {
            told.put(row[0], row);
        }
        String[] promises = PROMISE.split(document.substring(0, document.indexOf("\n## Not promised")));
        for (int p = 2; p < promises.length; p++) {
            promise(promises[p].split("\n\n"), told, text);
        }
        check.due("calls that are told", told.size(), promises.length - 2);
        newObject(promises[1], text);
    }

    private static void newObject(String promise, String text) {
        String does = flat(promise.split("\n\n")[2]);
        String want = "`LedgerStore()` " + Character.toLowerCase(does.charAt(0)) + does.substring(1);
        check.due("README says: " + want, flat(text).contains(want), true);
    }

    // A promise is its name, its signature, at times a row of dashes, what it does, and the rest.
    private static void promise(String[] parts, Map<String, String[]> told, String text) {
        String signature = flat(parts[1]).replaceAll(" throws [^`]*", "");
        String[] row = told.get(signature);
        if (row == null) {
            check.report("README has no row " + signature);
            return;
        }
        int does = parts[2].startsWith("----") ? 3 : 2;
        String allOfIt = flat(parts[does]);
        String what = signature.contains("digest") ? allOfIt.substring(0, allOfIt.indexOf("wraps).") + 7) : allOfIt;
        String[] want = {signature, what, "", "", ""};
        for (int i = does + 1; i < parts.length; i++) {
            rest(flat(parts[0]), parts[i], want, text);
        }
        for (int i = 0; i < want.length; i++) {
            String got = i < row.length ? row[i] : "";
            if (!got.equals(want[i])) {
                check.report("README says of " + signature + ": " + got + ", due is: " + want[i]);
            }
        }
    }

    private static void rest(String name, String part, String[] want, String text) {
        String line = flat(part);
        if (line.startsWith("Returns ")) {
            want[2] = line.substring("Returns ".length());
        } else if (line.startsWith("Throws `IllegalArgumentException` ")) {
            want[3] = line.substring("Throws `IllegalArgumentException` ".length());
        } else if (line.startsWith("Throws `IllegalStateException` ")) {
            want[4] = line.substring("Throws `IllegalStateException` ".length());
        } else {
            arguments(name, part, text);
        }
    }

    private static void arguments(String name, String part, String text) {
        Matcher argument = ARGUMENT.matcher(part);
        int found = 0;
        while (argument.find()) {
            found++;
            boolean stands = false;
            for (String[] row : rows(text.substring(0, text.indexOf("### Nodes")))) {
                boolean ofCall = row[1].equals("every call that has it") || row[1].contains("`" + name + "`");
                stands |= row[0].equals("`" + argument.group(1) + "`") && ofCall && row[2].equals(argument.group(2));
            }
            check.due("README tells " + argument.group() + " of " + name, stands, true);
        }
        check.due("a part of the promise that is read: " + flat(part), found > 0, true);
    }
}
