import java.io.IOException;
import java.nio.file.Files;
import java.nio.file.Path;
import java.util.ArrayList;
import java.util.LinkedHashMap;
import java.util.LinkedHashSet;
import java.util.List;
import java.util.Map;
import java.util.Set;
import java.util.function.Function;
import java.util.function.Supplier;

/** What the tests of the boundaries share: the document's sentences, objects to begin with, and checks. */
final class Checks {
    static final String INDEX = "IndexOutOfBoundsException";
    static final String ARGUMENT = "IllegalArgumentException";
    static final String STATE = "IllegalStateException";
    static final int NONE = -1;
    static final int LEAST = Integer.MIN_VALUE;
    static final int MOST = Integer.MAX_VALUE;
    static final double SLANT = 1.4142135623730951;

    private static String sentence = "";
    private static int checks = 0;
    private static int wrong = 0;

    private static final String DOCUMENT_FILE = "../shared/DOC.md";
    private static final Map<String, List<String>> DOCUMENT = readDocument();
    private static final Set<String> QUOTED = new LinkedHashSet<>();

    interface Call {
        Object answer();
    }

    private Checks() {
    }

    // ---- the sentences

    /** The sentences of the document by its headings; what a heading or a signature says stands apart. */
    private static Map<String, List<String>> readDocument() {
        Map<String, List<String>> sections = new LinkedHashMap<>();
        String section = "";
        if (!Files.isReadable(Path.of(DOCUMENT_FILE))) {
            System.out.println("the document is not at hand: the quotes are not compared with it");
            return sections;
        }
        try {
            for (String line : Files.readAllLines(Path.of(DOCUMENT_FILE))) {
                if (line.startsWith("## ")) {
                    section = line.substring(3).replaceAll(":.*", "");
                } else if (!line.isBlank() && !line.startsWith("#") && !line.startsWith("Ahead of the calls")) {
                    String words = line.replaceAll("^- ", "").replaceAll("^`[^`]*\\)[^`]*`: ", "");
                    sections.computeIfAbsent(section, key -> new ArrayList<>())
                            .addAll(List.of(words.split("(?<=[.]) (?=[A-Z])")));
                }
            }
        } catch (IOException e) {
            wrong("the document cannot be read");
        }
        return sections;
    }

    /** What is checked from now on belongs to these words of the document. */
    static void sentence(String section, String words) {
        endOfSentence();
        sentence = section + ": " + words;
        if (!DOCUMENT.isEmpty() && !DOCUMENT.getOrDefault(section, List.of()).contains(words)) {
            wrong("no such sentence in the document");
        }
        QUOTED.add(sentence);
        checks = 0;
    }

    static void sentence(int promise, String words) {
        sentence("Promise " + promise, words);
    }

    private static void endOfSentence() {
        if (!sentence.isEmpty() && checks == 0) {
            wrong("nothing is checked");
        }
    }

    /** Every sentence of the terms and of the promises must have been quoted by a test. */
    static void end(String what) {
        endOfSentence();
        sentence = "all";
        for (String section : DOCUMENT.keySet()) {
            if (section.equals("Terms") || section.startsWith("Promise ")) {
                for (String words : DOCUMENT.get(section)) {
                    if (!QUOTED.contains(section + ": " + words) && !words.equals("The map, lines")) {
                        wrong("no test of: " + section + ": " + words);
                    }
                }
            }
        }
        System.out.println(wrong == 0 ? what : wrong + " answers are not as due");
        if (wrong != 0) {
            System.exit(1);
        }
    }

    // ---- the checks

    private static void wrong(String what) {
        wrong++;
        if (wrong <= 200) {
            System.out.println("[" + sentence + "] " + what);
        }
    }

    static String outcome(Call call) {
        try {
            return String.valueOf(call.answer());
        } catch (RuntimeException e) {
            return e.getClass().getSimpleName();
        }
    }

    static void due(String what, Object want, Call call) {
        String got = outcome(call);
        checks++;
        if (!got.equals(String.valueOf(want))) {
            wrong(what + " answered " + got + ", due is " + want);
        }
    }

    static void allowed(String what, Call call) {
        String got = outcome(call);
        checks++;
        if (got.endsWith("Exception")) {
            wrong(what + " answered " + got + ", but is allowed");
        }
    }

    /** The call throws the exception, and all that the object tells afterwards is as without the call. */
    static void refused(String what, Supplier<ContourLabels> made, String exception,
            Function<ContourLabels, Object> call) {
        ContourLabels x = made.get();
        ContourLabels twin = made.get();
        due(what, exception, () -> call.apply(x));
        due(what + " leaves all as it was", story(twin), () -> story(x));
    }

    /** The call saves one state, that from before it; undo() brings it back, and nothing else. */
    static void undoable(Supplier<ContourLabels> made, Function<ContourLabels, Object> call) {
        ContourLabels x = made.get();
        ContourLabels twin = made.get();
        String before = state(x);
        int saved = x.savedStates();
        allowed("the call", () -> call.apply(x));
        due("saved states", Math.min(5, saved + 1), x::savedStates);
        due("undo()", Math.min(4, saved), x::undo);
        due("the state behind undo()", before, () -> state(x));
        if (saved < 5) {
            due("all behind undo()", story(twin), () -> story(x));
        } else {
            due("the states saved ahead of it", pastStates(twin, 4), () -> pastStates(x, 4));
        }
    }

    static void savesNothing(Supplier<ContourLabels> made, Function<ContourLabels, Object> call) {
        ContourLabels x = made.get();
        ContourLabels twin = made.get();
        allowed("the call", () -> call.apply(x));
        due("the state", state(twin), () -> state(x));
        due("the states saved", pastStates(twin, 6), () -> pastStates(x, 6));
    }

    // ---- what an object tells

    /** The lines, their labels and the gap. */
    static String state(ContourLabels x) {
        StringBuilder all = new StringBuilder();
        all.append(x.lines()).append(" lines, gap ").append(x.gap());
        for (int line = 0; line < x.lines(); line++) {
            all.append("; ").append(x.levelOf(line)).append(" label ").append(x.labelOf(line)).append(" at");
            for (int number = 0; number <= x.stepsOf(line); number++) {
                all.append(' ').append(x.pointOf(line, number));
            }
        }
        return all.toString();
    }

    static String pastStates(ContourLabels x, int most) {
        StringBuilder all = new StringBuilder();
        for (int undone = 0; undone < most && x.savedStates() > 0; undone++) {
            x.undo();
            all.append('|').append(state(x));
        }
        return all.toString();
    }

    /** All that an object knows: its state, the saved ones, the snapshot and the text. It is used up by that. */
    static String story(ContourLabels x) {
        StringBuilder all = new StringBuilder(state(x));
        all.append(" labels ").append(x.labels()).append(" near ").append(x.tooNear());
        all.append(" saved ").append(x.savedStates()).append(pastStates(x, 6));
        all.append(" text ").append(x.errorPosition()).append(' ').append(outcome(x::runText)).append(state(x));
        all.append(" of ").append(x.clearText());
        all.append(" snapshot ").append(outcome(x::restoreSnapshot)).append(state(x));
        return all.toString();
    }

    // ---- objects to begin with

    static int point(int column, int row) {
        return 24 * row + column;
    }

    static int line(ContourLabels x, int level, int point, String directions) {
        int line = x.begin(level, point);
        steps(x, line, directions);
        return line;
    }

    static void steps(ContourLabels x, int line, String directions) {
        for (char direction : directions.toCharArray()) {
            x.step(line, direction - '0');
        }
    }

    /** A new object with one line. */
    static ContourLabels one(int level, int point, String directions) {
        ContourLabels x = new ContourLabels();
        line(x, level, point, directions);
        return x;
    }

    static void write(ContourLabels x, String text) {
        x.clearText();
        for (char sign : text.toCharArray()) {
            x.append(sign);
        }
    }

    static ContourLabels written(String text) {
        ContourLabels x = new ContourLabels();
        write(x, text);
        return x;
    }

    /** Three lines: 0 with a label, 1 closed, 2 with a label; two saved states, a snapshot and a text. */
    static ContourLabels rich() {
        ContourLabels x = written("n20@50;s000000;l0.1;n5@146;s0246");
        x.runText();
        x.takeSnapshot();
        write(x, "n7@220;s000;b2;g3");
        x.runText();
        write(x, "n9@90;s00;b3;g4");
        return x;
    }

    /** As rich, with as many saved states as there can be. */
    static ContourLabels busy() {
        ContourLabels x = rich();
        x.setGap(6);
        x.setGap(4);
        x.setGap(3);
        return x;
    }

    /** As many lines, characters and saved states as there can be, and a snapshot. */
    static ContourLabels full() {
        ContourLabels x = new ContourLabels();
        for (int line = 0; line < 8; line++) {
            line(x, 13 * line, 48 * line, "00");
            if (line == 3) {
                x.takeSnapshot();
            }
        }
        x.label(0, 0);
        x.label(7, 0);
        write(x, "w7;n5@370;s00;g6" + ";a".repeat(22));
        return x;
    }
}
