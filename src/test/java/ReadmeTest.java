import java.io.IOException;
import java.lang.reflect.Method;
import java.lang.reflect.Modifier;
import java.nio.file.DirectoryStream;
import java.nio.file.Files;
import java.nio.file.Path;
import java.util.ArrayList;
import java.util.List;
import java.util.Map;
import java.util.Set;
import java.util.TreeSet;
import java.util.regex.Matcher;
import java.util.regex.Pattern;

// What README.md says holds for the class as it stands: its examples are run, and each row of its
// tables is held against what the call answers, at its bounds and beside them.
public final class ReadmeTest {
    private static final Path PAGE = Path.of("README.md"), TESTS = Path.of("src/test/java");
    private static final List<String> ORDER = List.of("BAD", "NO", "NONE", "FULL");
    private static final Map<String, Integer> REFUSALS =
        Map.of("BAD", OracleWheel.BAD, "NO", OracleWheel.NO, "NONE", OracleWheel.NONE, "FULL", OracleWheel.FULL);
    private static final Pattern WRITING = Pattern.compile("for \\(char c : \"([^\"]*)\"\\.toCharArray\\(\\)\\) x\\.write\\(c\\);");
    private static final Pattern CALL = Pattern.compile("x\\.(\\w+)\\(([^)]*)\\);\\s+// (-?\\d+|BAD|NO|NONE|FULL)\\b.*");
    private static final Pattern HEAD = Pattern.compile("`(\\w+)\\(([^)]*)\\)`");
    private static final Pattern BOUNDS = Pattern.compile("`(\\w+)` (\\d+) (?:to (\\d+)|and more)");
    private static final int SITUATIONS = 6;

    public static void main(String[] args) throws IOException {
        List<String> lines = Files.readAllLines(PAGE);
        examples(lines);
        firstHill(lines);
        items(lines);
        names(lines);
        calls(lines);
        tests(String.join("\n", lines));
        System.out.println("ReadmeTest: " + Report.asked + " answers, " + Report.wrong + " not as the page says");
        if (Report.wrong != 0) System.exit(1);
    }

    /** The examples are one run, from the first to the last. */
    private static void examples(List<String> lines) {
        Oracle x = null;
        int asked = 0;
        for (String line : lines) {
            if (!line.startsWith("    ")) continue;
            Report.sentence = line.strip();
            Matcher writing = WRITING.matcher(line.strip());
            Matcher call = CALL.matcher(line.strip());
            if (line.strip().equals("OracleWheel x = new OracleWheel();")) x = Oracle.anew();
            else if (writing.matches()) x.write(writing.group(1));
            else if (call.matches()) {
                x.due(inWords(call.group(1), call.group(2)), number(call.group(3)));
                asked++;
            } else if (line.contains("x.")) Report.say("this is no example that can be run");
        }
        if (asked < 20) Report.say("the page has but " + asked + " examples");
    }

    private static String inWords(String name, String arguments) {
        StringBuilder call = new StringBuilder(name);
        for (String one : arguments.isEmpty() ? new String[0] : arguments.split(", ")) {
            call.append(' ').append(one.startsWith("'") ? one.charAt(1) : Integer.parseInt(one));
        }
        return call.toString();
    }

    private static int number(String told) {
        return REFUSALS.containsKey(told) ? REFUSALS.get(told) : Integer.parseInt(told);
    }

    private static void firstHill(List<String> lines) throws IOException {
        Report.sentence = "this hill is laid";
        List<String> texts = lines.stream().map(String::strip).filter(one -> one.matches("r[ynpb]+;.*a\\d,\\d;")).toList();
        if (texts.size() != 1) Report.say("the page tells not one text of a hill alone on its line");
        String document = Files.readString(Path.of("../shared/DOC.md"));
        for (String text : texts) {
            if (!document.contains("at first " + text)) Report.say("the document tells another one");
            Oracle.anew().sameAs(Oracle.laid(text).run("wipe"));
        }
    }

    private static void items(List<String> lines) {
        for (String[] row : rows(lines, "`[rshwa]\\w[^`]*;`")) {
            Report.sentence = row[0];
            Matcher bounds = Pattern.compile("\\b([A-Z]) \\((\\d+) to (\\d+)\\)").matcher(row[1]);
            while (bounds.find()) {
                int lowest = Integer.parseInt(bounds.group(2));
                int highest = Integer.parseInt(bounds.group(3));
                for (int n : new int[] {lowest - 1, lowest, highest, highest + 1}) {
                    boolean bad = n < lowest || n > highest;
                    String item = row[0].replace("`", "").replace(bounds.group(1), String.valueOf(n));
                    // the other numbers of the item are such as it always can have
                    String text = item.replaceAll("[ESXKA]", "1").replaceAll("[BN]", "2").replaceAll("D", "3");
                    Report.due("fault of " + text, Oracle.written(text).ask("fault"), bad ? 0 : OracleWheel.NONE);
                }
            }
        }
        withoutItems(lines);
    }

    /** What the page tells to be so without an item is so. */
    private static void withoutItems(List<String> lines) {
        StringBuilder without = new StringBuilder();
        for (String[] row : rows(lines, "`[rsh]\\w[^`]*;`")) without.append(row[2].replaceAll("`", ""));
        Report.sentence = "without it: " + without;
        if (without.chars().filter(c -> c == ';').count() != 3) Report.say("the page does not tell what is so without three items");
        Oracle.laid(without + "a0,0;").run("wipe").sameAs(Oracle.laid("a0,0;").run("wipe"));
    }

    private static void names(List<String> lines) {
        List<String> told = new ArrayList<>();
        for (String[] row : rows(lines, "`OracleWheel\\.\\w+`")) {
            String name = row[0].replaceAll("`OracleWheel\\.(\\w+)`", "$1");
            Report.sentence = name;
            Report.due(name, REFUSALS.getOrDefault(name, 0), Integer.parseInt(row[1]));
            told.add(name);
        }
        if (!Set.copyOf(told).equals(REFUSALS.keySet())) Report.say("names that are told: " + told);
    }

    /** The cells of the rows whose first cell is such. */
    private static List<String[]> rows(List<String> lines, String first) {
        List<String[]> rows = new ArrayList<>();
        for (String line : lines) {
            if (!line.startsWith("| ")) continue;
            String[] cells = line.substring(1, line.lastIndexOf('|')).split("\\|", -1);
            for (int i = 0; i < cells.length; i++) cells[i] = cells[i].strip();
            if (cells[0].matches(first)) rows.add(cells);
        }
        return rows;
    }

    private static void calls(List<String> lines) {
        Set<String> told = new TreeSet<>();
        for (String[] row : rows(lines, HEAD.pattern())) {
            Matcher head = HEAD.matcher(row[0]);
            head.matches();
            String[] parameters = head.group(2).isEmpty() ? new String[0] : head.group(2).split(", ");
            Report.sentence = row[0];
            if (!told.add(head.group(1) + " " + parameters.length)) Report.say("the page tells it twice");
            if (row.length != 4) Report.say("the row has not four cells");
            else new Row(head.group(1), parameters, row[1], row[3]).look();
        }
        Set<String> face = new TreeSet<>();
        for (Method m : OracleWheel.class.getDeclaredMethods()) {
            if (Modifier.isPublic(m.getModifiers())) face.add(m.getName() + " " + m.getParameterCount());
        }
        Report.sentence = "What the calls answer";
        if (!told.equals(face)) Report.say("the page tells " + told + ", the class has " + face);
    }

    private static Oracle situation(int i) {
        switch (i) {
            case 0: return Oracle.anew();
            case 1: return Sentences.busy(Oracle.anew());
            case 2: return Sentences.full();
            case 3: return Oracle.laid("ryn;a3,0;a3,1;a0,2;");
            case 4: return Oracle.written("w0,0,1,1;");
            default: return Oracle.laid("rynpb;w0,1,0,1;w3,2,1,9;a0,0;a1,1;a2,2;a3,3;").run("keep, see 0 0, pass 1");
        }
    }

    /** A row of the tables of calls. */
    private static final class Row {
        final String name;
        final String[] parameters;
        final long[] lowest, highest;
        final boolean unlike;
        final List<String> refusals = new ArrayList<>();
        final Set<Integer> met = new TreeSet<>();

        Row(String name, String[] parameters, String numbers, String refuses) {
            this.name = name;
            this.parameters = parameters;
            lowest = new long[parameters.length];
            highest = new long[parameters.length];
            unlike = numbers.contains("`other` is another asker");
            Matcher bounds = BOUNDS.matcher(numbers);
            while (bounds.find()) bound(bounds.group(1), Long.parseLong(bounds.group(2)),
                bounds.group(3) == null ? Integer.MAX_VALUE : Long.parseLong(bounds.group(3)));
            Matcher one = Pattern.compile("\\b(BAD|NO|NONE|FULL)\\b").matcher(refuses);
            while (one.find()) refusals.add(one.group());
        }

        private void bound(String parameter, long low, long high) {
            for (int i = 0; i < parameters.length; i++) {
                if (!parameters[i].equals(parameter)) continue;
                lowest[i] = low;
                highest[i] = high;
            }
        }

        void look() {
            if (!refusals.equals(ORDER.stream().filter(refusals::contains).toList())) Report.say("the order of " + refusals);
            for (int i = 0; i < SITUATIONS; i++) {
                int ways = situation(i).ask("count 1");
                int askers = situation(i).ask("count 2");
                for (String parameter : parameters) {
                    if (parameter.equals("way")) bound(parameter, 0, ways - 1);
                    if (parameter.equals("asker") || parameter.equals("other")) bound(parameter, 0, askers - 1);
                    if (parameter.equals("word")) bound(parameter, 0, 3);
                }
                each(i, new int[parameters.length], 0);
            }
            for (String refusal : refusals) if (!met.contains(REFUSALS.get(refusal))) Report.say("it was never refused with " + refusal);
        }

        /** All calls by numbers at the bounds and beside them. */
        private void each(int situation, int[] numbers, int at) {
            if (at == numbers.length) {
                one(situation, numbers);
                return;
            }
            long[] beside = {Integer.MIN_VALUE, lowest[at] - 1, lowest[at], lowest[at] + 1, highest[at], highest[at] + 1, Integer.MAX_VALUE};
            for (long number : beside) {
                if (number > Integer.MAX_VALUE) continue;
                numbers[at] = (int) number;
                each(situation, numbers, at + 1);
            }
        }

        private void one(int situation, int[] numbers) {
            StringBuilder call = new StringBuilder(name);
            boolean bad = unlike && numbers[0] == numbers[1];
            for (int i = 0; i < numbers.length; i++) {
                call.append(' ').append(numbers[i]);
                bad |= numbers[i] < lowest[i] || numbers[i] > highest[i];
            }
            int got = situation(situation).ask(call.toString());
            Report.asked++;
            if (bad != (got == OracleWheel.BAD)) Report.say(call + " answered " + got + " in situation " + situation);
            if (got < 0 && refusals.stream().noneMatch(refusal -> REFUSALS.get(refusal) == got)) Report.say(call + " was refused with " + got);
            met.add(got);
        }
    }

    private static void tests(String page) throws IOException {
        Report.sentence = "How to run its tests";
        try (DirectoryStream<Path> files = Files.newDirectoryStream(TESTS, "*.java")) {
            for (Path file : files) {
                boolean runs = Files.readString(file).contains("public static void " + "main");
                if (runs && !page.contains("`" + TESTS + "/" + file.getFileName() + "`")) Report.say("nothing is told of " + file);
            }
        }
        for (Class<?> group : SentenceTests.GROUPS) {
            if (!page.contains("`" + group.getSimpleName() + "`")) Report.say("nothing is told of " + group.getSimpleName());
        }
    }
}
