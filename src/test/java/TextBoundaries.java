import java.util.function.Supplier;

/** The boundaries that the terms and the promises 38 to 45 name: orders as texts, undo, the snapshot, exceptions. */
final class TextBoundaries {
    private static final String VALID = "It is a valid text if it consists of one or more orders with \";\" between two of "
            + "them; an order is";
    private static final String NUMBERS = "Levels are 0 to 99, points 0 to 383, lines 0 to 7; numbers have no leading "
            + "zeros.";
    private static final String RUNS = "Carries out the orders of the text buffer in their order, up to the first one for "
            + "which a method that is named above would throw an exception, or for which there is no line; the steps of "
            + "an \"s\" ahead of one that is not possible are made.";
    private static final String UNDO_PART = "The state is everything except the buffer, the saved states and the "
            + "snapshot.";

    private TextBoundaries() {
    }

    static void all() {
        buffer();
        separators();
        beginAndStep();
        wipeToBest();
        allAndGap();
        numbers();
        errorPosition();
        append();
        clearText();
        errorPositionOfCalls();
        runText();
        runTextStops();
        runTextAsTheCalls();
        runTextIsOneCall();
        runTextRefused();
        stateParts();
        undoableCalls();
        fiveStates();
        snapshots();
        exceptions();
        undo();
        savedStates();
        takeSnapshot();
        restoreSnapshot();
        manyCalls();
    }

    private static void terms(String words) {
        Checks.sentence("Terms", words);
    }

    private static void error(String text, int position, boolean isValid) {
        ContourLabels x = Checks.written(text);
        Checks.due("the error position of " + text, position, x::errorPosition);
        Checks.due("is it valid: " + text, isValid, () -> !Checks.outcome(x::runText).equals(Checks.ARGUMENT));
        Checks.due("the length of " + text, text.length(), x::clearText);
    }

    private static void valid(String... texts) {
        for (String text : texts) {
            error(text, text.length(), true);
        }
    }

    private static void unfinished(String... texts) {
        for (String text : texts) {
            error(text, text.length(), false);
        }
    }

    // ---- the text

    private static void buffer() {
        terms("The text buffer holds at most 60 characters and is empty at first.");
        Checks.due("empty", 0, () -> new ContourLabels().clearText());
        Checks.due("empty", 0, () -> new ContourLabels().errorPosition());
        ContourLabels x = new ContourLabels();
        for (int length = 1; length <= 60; length++) {
            int here = length;
            Checks.due("the length " + here, here, () -> x.append(here % 2 == 1 ? 'a' : ';'));
        }
        Checks.due("61", Checks.STATE, () -> x.append('a'));
        Checks.due("60", 60, x::clearText);
        Checks.due("empty again", 1, () -> x.append('a'));
        valid("g1" + ";a".repeat(29), "a" + ";a".repeat(29));
        unfinished("a;".repeat(30));
        error("a" + ";a".repeat(29) + "a", 59, false);
        error("g1" + ";a".repeat(28) + ";b", 60, false);
    }

    private static void separators() {
        terms(VALID);
        valid("a", "a;a", "a;g1;a", "n0@0;s0;w0;l0.0;u0;b0;a;g1");
        unfinished("", "a;", "a;a;", "s0;", "n0@0;");
        error(";", 0, false);
        error(";a", 0, false);
        error("a;;a", 2, false);
        error("aa", 1, false);
        error("a a", 1, false);
        error(" a", 0, false);
        error("a ", 1, false);
        error("a:a", 1, false);
        error("a,a", 1, false);
        for (char sign = 32; sign <= 126; sign++) {
            boolean begins = "nswlubag".indexOf(sign) >= 0;
            error("" + sign, begins ? 1 : 0, sign == 'a');
            error("a" + sign, sign == ';' ? 2 : 1, false);
            error("a;" + sign, begins ? 3 : 2, sign == 'a');
        }
    }

    // Each character in the place of each one of an order.
    private static void beginAndStep() {
        terms("\"n\", a level, \"@\" and a point: like begin(); \"s\" and one to 20 digits from 0 to 7: like step() of the "
                + "line with the greatest number, for each of them;");
        for (char sign = 32; sign <= 126; sign++) {
            boolean isDigit = sign >= '0' && sign <= '9';
            error("n" + sign, isDigit ? 2 : 1, false);
            error("n5" + sign, isDigit || sign == '@' ? 3 : 2, false);
            error("n55" + sign, sign == '@' ? 4 : 3, false);
            error("n5@" + sign, isDigit ? 4 : 3, isDigit);
            error("n5@1" + sign, isDigit || sign == ';' ? 5 : 4, isDigit);
            error("s" + sign, sign >= '0' && sign <= '7' ? 2 : 1, sign >= '0' && sign <= '7');
            error("s0" + sign, sign >= '0' && sign <= '7' || sign == ';' ? 3 : 2, sign >= '0' && sign <= '7');
        }
        String digits = "01234567012345670123";
        for (int count = 1; count <= 20; count++) {
            valid("s" + digits.substring(0, count), "s" + digits.substring(0, count) + ";a");
        }
        unfinished("s", "a;s");
        error("s" + digits + "0", 21, false);
        error("a;s" + digits + "7;a", 23, false);
        error("s;", 1, false);
        ContourLabels x = Checks.written("n5@0;n99@100;s0;s007");
        Checks.due("orders", 4, x::runText);
        Checks.due("the line with the greatest number", 4, () -> x.stepsOf(1));
        Checks.due("not the first one", 0, () -> x.stepsOf(0));
        Checks.due("the last point", 80, () -> x.pointOf(1, 4));
        Checks.due("the level", 99, () -> x.levelOf(1));
        ContourLabels twenty = Checks.written("n5@0;s" + "0".repeat(20) + ";s0002");
        Checks.due("20 steps and more", 3, twenty::runText);
        Checks.due("steps", 24, () -> twenty.stepsOf(0));
    }

    private static void wipeToBest() {
        terms("\"w\" and a line: like wipe(); \"l\", a line, \".\" and a number from 0 to 59: like label(); \"u\" and a line: "
                + "like unlabel(); \"b\" and a line: like labelBest();");
        for (char sign = 32; sign <= 126; sign++) {
            boolean isLine = sign >= '0' && sign <= '7';
            boolean isDigit = sign >= '0' && sign <= '9';
            for (String order : new String[] {"w", "u", "b"}) {
                error(order + sign, isLine ? 2 : 1, isLine);
                error(order + "1" + sign, sign == ';' ? 3 : 2, false);
            }
            error("l" + sign, isLine ? 2 : 1, false);
            error("l1" + sign, sign == '.' ? 3 : 2, false);
            error("l1." + sign, isDigit ? 4 : 3, isDigit);
            error("l1.1" + sign, isDigit || sign == ';' ? 5 : 4, isDigit);
            error("l1.5" + sign, isDigit || sign == ';' ? 5 : 4, isDigit);
            error("l1.6" + sign, sign == ';' ? 5 : 4, false);
            error("l1.0" + sign, sign == ';' ? 5 : 4, false);
        }
        unfinished("w", "u", "b", "l", "l7", "l7.");
        for (int number = 0; number <= 99; number++) {
            error("l0." + number, number <= 59 ? 3 + ("" + number).length() : 4, number <= 59);
        }
        error("l0.590", 5, false);
        error("l0.100", 5, false);
        ContourLabels x = Checks.written("n5@0;s0000;l0.3;u0;b0;n6@96;s00;l1.1;u1;l1.0;w0");
        Checks.due("orders", 11, x::runText);
        Checks.due("lines", 1, x::lines);
        Checks.due("the level", 6, () -> x.levelOf(0));
        Checks.due("the label", 0, () -> x.labelOf(0));
        ContourLabels y = Checks.written("n5@0;s0000;l0.3;u0;n6@96;s00;b1;b0;u1");
        Checks.due("orders", 9, y::runText);
        Checks.due("taken away, then set", 0, () -> y.labelOf(0));
        Checks.due("set, then taken away", Checks.NONE, () -> y.labelOf(1));
    }

    private static void allAndGap() {
        terms("\"a\": like labelAll(); \"g\" and a digit from 1 to 6: like setGap().");
        for (char sign = 32; sign <= 126; sign++) {
            boolean isGap = sign >= '1' && sign <= '6';
            error("g" + sign, isGap ? 2 : 1, isGap);
            error("g1" + sign, sign == ';' ? 3 : 2, false);
            error("g6" + sign, sign == ';' ? 3 : 2, false);
        }
        unfinished("g");
        for (int gap = 1; gap <= 6; gap++) {
            ContourLabels x = Checks.written("g" + gap);
            Checks.due("one order", 1, x::runText);
            Checks.due("the gap", gap, x::gap);
        }
        ContourLabels x = Checks.written("n5@0;s000;n4@24;s000;l0.0;a");
        Checks.due("orders", 6, x::runText);
        Checks.due("by levels", Checks.NONE, () -> x.labelOf(0));
        Checks.due("by levels", 0, () -> x.labelOf(1));
    }

    private static void numbers() {
        terms(NUMBERS);
        for (int level = 0; level <= 999; level++) {
            String text = "n" + level;
            error(text + "@0", level <= 99 ? text.length() + 2 : 3, level <= 99);
        }
        for (int point = 0; point <= 1200; point++) {
            String text = "n5@" + point;
            error(text, point <= 383 ? text.length() : point <= 999 || point / 10 > 383 ? 5 : 6, point <= 383);
        }
        error("n5@3830", 6, false);
        error("n5@3840", 5, false);
        error("n5@9999", 5, false);
        for (int line = 0; line <= 99; line++) {
            boolean isLine = line <= 7;
            int position = isLine ? 2 : line <= 9 || line / 10 > 7 ? 1 : 2;
            error("w" + line, position, isLine);
            error("u" + line, position, isLine);
            error("b" + line, position, isLine);
            error("l" + line + ".0", isLine ? 4 : position, isLine);
        }
        for (int number = 0; number <= 9; number++) {
            error("n0" + number + "@0", 2, false);
            error("n5@0" + number, 4, false);
            error("w0" + number, 2, false);
            error("l0" + number + ".0", 2, false);
            error("l0.0" + number, 4, false);
            error("u0" + number, 2, false);
            error("b0" + number, 2, false);
            error("g0" + number, 1, false);
        }
        error("n00@0", 2, false);
        error("n5@000", 4, false);
        error("n-1@0", 1, false);
        error("n+1@0", 1, false);
        for (int line = 0; line <= 7; line++) {
            int here = line;
            ContourLabels x = Checks.full();
            Checks.write(x, "w" + here);
            Checks.due("w" + here, 1, x::runText);
            Checks.due("seven left", 7, x::lines);
            Checks.due("it is gone", Checks.NONE, () -> x.lineAt(48 * here));
        }
        for (int point : new int[] {0, 9, 10, 99, 100, 299, 300, 380, 383}) {
            ContourLabels x = Checks.written("n99@" + point);
            Checks.due("at " + point, 1, x::runText);
            Checks.due("the line at " + point, 0, () -> x.lineAt(point));
        }
        for (int level : new int[] {0, 9, 10, 99}) {
            ContourLabels x = Checks.written("n" + level + "@7");
            Checks.due("at the level " + level, 1, x::runText);
            Checks.due("the level", level, () -> x.levelOf(0));
        }
    }

    private static void errorPosition() {
        terms("The error position of the buffer is the index of the first character with which no valid text of any "
                + "length can begin, together with the characters before it; if there is none, it is the length of the "
                + "buffer.");
        // A text that would be longer than the buffer counts as well.
        String almost = "a;".repeat(29);
        unfinished(almost + "n1", almost + "n9", almost + "l0", almost + "g", almost.substring(2) + "n99@",
                almost.substring(2) + "l7.");
        valid(almost + "a", almost + "w0", almost + "s7", almost.substring(2) + "n9@9", almost.substring(2) + "s777");
        error(almost + "nn", 59, false);
        error(almost + "w8", 59, false);
        error("x" + "a".repeat(59), 0, false);
        // Behind the error nothing counts.
        error("n5@384;a;a", 5, false);
        error("s8;s0", 1, false);
        // Character by character: the position stays at the first error.
        ContourLabels x = new ContourLabels();
        String text = "n12@345;s07;l0.60;a";
        for (int index = 0; index < text.length(); index++) {
            char sign = text.charAt(index);
            int due = Math.min(index + 1, 16);
            x.append(sign);
            Checks.due("behind " + text.substring(0, index + 1), due, x::errorPosition);
        }
    }

    private static void append() {
        Checks.sentence(38, "Appends a character to the text buffer.");
        ContourLabels x = new ContourLabels();
        x.append('g');
        x.append('5');
        Checks.due("one order", 1, x::runText);
        Checks.due("carried out", 5, x::gap);
        Checks.sentence(38, "`code`: 32 to 126");
        ContourLabels y = new ContourLabels();
        for (int code : new int[] {32, 33, 125, 126}) {
            Checks.allowed("the code " + code, () -> y.append(code));
        }
        Checks.sentence(38, "Returns the length of the buffer afterwards.");
        ContourLabels z = new ContourLabels();
        for (int length = 1; length <= 60; length++) {
            int here = length;
            Checks.due("the length", here, () -> z.append(31 + here));
        }
        Checks.sentence(38, "Throws `IllegalArgumentException` if code is out of range");
        for (int code : new int[] {31, 127, 0, -1, 256 + 97, Checks.LEAST, Checks.MOST}) {
            Checks.refused("empty, " + code, ContourLabels::new, Checks.ARGUMENT, w -> w.append(code));
            Checks.refused("busy, " + code, Checks::busy, Checks.ARGUMENT, w -> w.append(code));
            Checks.refused("full, " + code, Checks::full, Checks.ARGUMENT, w -> w.append(code));
        }
        Checks.sentence(38, "Throws `IllegalStateException` if the buffer has 60 characters");
        Checks.refused("full", Checks::full, Checks.STATE, w -> w.append('a'));
        Checks.refused("full, the least code", Checks::full, Checks.STATE, w -> w.append(32));
        Checks.refused("full, the greatest code", Checks::full, Checks.STATE, w -> w.append(126));
        ContourLabels last = new ContourLabels();
        Checks.write(last, "a".repeat(59));
        Checks.due("59", 60, () -> last.append('a'));
        Checks.savesNothing(Checks::rich, w -> w.append('a'));
    }

    private static void clearText() {
        Checks.sentence(39, "Empties the text buffer.");
        ContourLabels x = Checks.busy();
        x.clearText();
        Checks.due("empty", 0, x::errorPosition);
        Checks.due("no valid text", Checks.ARGUMENT, x::runText);
        Checks.due("the first character", 1, () -> x.append('a'));
        Checks.due("nothing is left of the old text", 1, x::runText);
        Checks.sentence(39, "Returns the length that it had.");
        for (int length = 0; length <= 60; length++) {
            Checks.due("the length", length, Checks.written("a".repeat(length))::clearText);
        }
        Checks.due("empty", 0, () -> {
            ContourLabels y = Checks.full();
            y.clearText();
            return y.clearText();
        });
        Checks.savesNothing(Checks::busy, ContourLabels::clearText);
    }

    private static void errorPositionOfCalls() {
        Checks.sentence(40, "Returns the error position of the text buffer; its length also if it is a valid text.");
        Checks.due("empty", 0, () -> new ContourLabels().errorPosition());
        Checks.due("valid", 1, Checks.written("a")::errorPosition);
        Checks.due("valid with 60 characters", 60, () -> Checks.full().errorPosition());
        Checks.due("unfinished", 2, Checks.written("a;")::errorPosition);
        Checks.due("the first character", 0, Checks.written("x")::errorPosition);
        Checks.due("the last of 60 characters", 59, Checks.written("a" + ";a".repeat(29) + "a")::errorPosition);
        ContourLabels x = Checks.busy();
        int before = x.errorPosition();
        x.runText();
        Checks.due("behind runText()", before, x::errorPosition);
        x.undo();
        Checks.due("behind undo()", before, x::errorPosition);
        Checks.savesNothing(Checks::busy, ContourLabels::errorPosition);
    }

    // ---- runText

    private static void runText() {
        Checks.sentence(41, "Returns how many orders were carried out.");
        Checks.due("one", 1, Checks.written("a")::runText);
        Checks.due("30", 30, Checks.written("a" + ";a".repeat(29))::runText);
        Checks.due("none", 0, Checks.written("w0")::runText);
        Checks.due("an s is one order", 2, Checks.written("n5@0;s000")::runText);
        Checks.due("an s that is made in part is none", 1, Checks.written("n5@21;s0000;a")::runText);
        Checks.sentence(41, "The buffer does not change.");
        for (String text : new String[] {"a", "w0", "n5@0;s0000;w0;w0", "a" + ";a".repeat(29), "g1" + ";a".repeat(29)}) {
            ContourLabels x = Checks.written(text);
            int done = x.runText();
            Checks.due("valid still", text.length(), x::errorPosition);
            x.undo();
            Checks.due("again", done, x::runText);
            Checks.due("the length", text.length(), x::clearText);
        }
    }

    private static void stops(String text, int done, String left) {
        ContourLabels x = Checks.written(text);
        Checks.due(text, done, x::runText);
        Checks.due("left by " + text, left, () -> Checks.state(x));
        Checks.due("one state is saved by " + text, 1, x::savedStates);
        Checks.due("undo() behind " + text, 0, x::undo);
        Checks.due("undone " + text, "0 lines, gap 2", () -> Checks.state(x));
    }

    private static void runTextStops() {
        Checks.sentence(41, RUNS);
        for (String order : new String[] {"s0", "w0", "l0.0", "u0", "b0"}) {
            stops(order, 0, "0 lines, gap 2");
            stops(order + ";g3", 0, "0 lines, gap 2");
            stops("g3;" + order + ";g4", 1, "0 lines, gap 3");
        }
        stops("a;g3", 2, "0 lines, gap 3");
        String two = "n5@0;s000";
        String left = "1 lines, gap 2; 5 label -1 at 0 1 2 3";
        for (String order : new String[] {"w1", "l1.0", "u1", "b1", "w7", "l7.0", "u7", "b7"}) {
            stops(two + ";" + order + ";g4", 2, left);
        }
        stops(two + ";n5@0;g4", 2, left);
        stops(two + ";n5@3;g4", 2, left);
        stops(two + ";u0;g4", 2, left);
        stops(two + ";l0.3;g4", 2, left);
        stops(two + ";l0.4;g4", 2, left);
        stops(two + ";l0.59;g4", 2, left);
        stops("n5@0;s222;b0;g4", 2, "1 lines, gap 2; 5 label -1 at 0 24 48 72");
        stops("n5@0;s222;l0.0;g4", 2, "1 lines, gap 2; 5 label -1 at 0 24 48 72");
        stops("n5@0;b0;g4", 1, "1 lines, gap 2; 5 label -1 at 0");
        stops("n5@0;s0;l0.0;n5@24;s0;l1.0;g4", 5, "2 lines, gap 2; 5 label 0 at 0 1; 5 label -1 at 24 25");
        stops("n1@0;n1@1;n1@2;n1@3;n1@4;n1@5;n1@6;n1@7;n1@8;g3", 8, "8 lines, gap 2; 1 label -1 at 0; 1 label -1 at 1; "
                + "1 label -1 at 2; 1 label -1 at 3; 1 label -1 at 4; 1 label -1 at 5; 1 label -1 at 6; 1 label -1 at 7");
        // The steps ahead of one that is not possible: because of the edge, a point, a closed line, a crossing, 60 steps.
        stops("n5@21;s0000;g3", 1, "1 lines, gap 2; 5 label -1 at 21 22 23");
        stops("n5@21;s0040;g3", 1, "1 lines, gap 2; 5 label -1 at 21 22 23");
        stops("n5@0;s02460;g3", 1, "1 lines, gap 2; 5 label -1 at 0 1 25 24 0");
        stops("n5@0;s163;g3", 1, "1 lines, gap 2; 5 label -1 at 0 25 1");
        stops("n5@0;s4;g3", 1, "1 lines, gap 2; 5 label -1 at 0");
        ContourLabels x = Checks.one(5, 0, "0".repeat(23) + "2" + "4".repeat(23) + "2" + "0".repeat(10));
        Checks.write(x, "s000;g3");
        Checks.due("no step 61", 0, x::runText);
        Checks.due("60 steps", 60, () -> x.stepsOf(0));
        Checks.due("the gap", 2, x::gap);
        Checks.write(x, "s0");
        Checks.due("no step any more", 0, x::runText);
        Checks.due("still 60 steps", 60, () -> x.stepsOf(0));
    }

    /** What the calls make, one by one. */
    private static ContourLabels called() {
        ContourLabels x = Checks.one(15, 30, "0000");
        x.labelBest(0);
        Checks.line(x, 5, 78, "0000");
        x.labelAll();
        x.setGap(1);
        x.label(0, 1);
        x.unlabel(1);
        Checks.line(x, 99, 300, "00");
        x.wipe(1);
        return x;
    }

    private static void runTextAsTheCalls() {
        ContourLabels y = Checks.written("n15@30;s0000;b0;n5@78;s0000;a;g1;l0.1;u1;n99@300;s00;w1");
        ContourLabels twin = called();
        Checks.due("all orders", 12, y::runText);
        Checks.due("as the calls", Checks.state(twin), () -> Checks.state(y));
    }

    private static void runTextIsOneCall() {
        Checks.sentence(41, "Undoable as one call.");
        Checks.undoable(Checks::rich, ContourLabels::runText);
        Checks.undoable(Checks::busy, ContourLabels::runText);
        Checks.undoable(Checks::full, ContourLabels::runText);
        Supplier<ContourLabels> none = () -> {
            ContourLabels x = Checks.rich();
            Checks.write(x, "w7;g1");
            return x;
        };
        Checks.undoable(none, ContourLabels::runText);
        Checks.undoable(() -> Checks.written("w0"), ContourLabels::runText);
        Supplier<ContourLabels> part = () -> {
            ContourLabels x = Checks.rich();
            Checks.write(x, "s0006;g1;w0");
            return x;
        };
        Checks.undoable(part, ContourLabels::runText);
        Supplier<ContourLabels> many = () -> {
            ContourLabels x = Checks.busy();
            Checks.write(x, "w0;w0;w0;g1;g2;g3;n5@0;s0;l0.0;u0;b0;a;g6");
            return x;
        };
        Checks.undoable(many, ContourLabels::runText);
    }

    private static void runTextRefused() {
        Checks.sentence(41, "Throws `IllegalArgumentException` if the text buffer is not a valid text");
        for (String text : new String[] {"", "a;", "n", "n5@0;s", "g1;g7", "w0;x", "w8", "a;a;a;", "g3;l0.60", "s8",
            "g1" + ";a".repeat(28) + ";b", "a;".repeat(30)}) {
            Checks.refused("new, " + text, () -> Checks.written(text), Checks.ARGUMENT, ContourLabels::runText);
            Checks.refused("busy, " + text, () -> {
                ContourLabels x = Checks.busy();
                Checks.write(x, text);
                return x;
            }, Checks.ARGUMENT, ContourLabels::runText);
        }
    }

    // ---- undo and the snapshot

    private static void stateParts() {
        terms(UNDO_PART);
        // undo() brings lines, levels, steps, labels and the gap back, but not the text, nor the snapshot.
        ContourLabels x = Checks.rich();
        String before = Checks.state(x);
        Checks.write(x, "w0;n5@0;s00;b2;g6");
        x.runText();
        x.takeSnapshot();
        Checks.write(x, "a;a");
        x.undo();
        Checks.due("the state", before, () -> Checks.state(x));
        Checks.due("the text", 3, x::errorPosition);
        Checks.due("the snapshot", 3, x::restoreSnapshot);
        Checks.due("the snapshot's gap", 6, x::gap);
        // restoreSnapshot() leaves the text and the saved states.
        ContourLabels y = Checks.rich();
        y.restoreSnapshot();
        Checks.due("saved states", 3, y::savedStates);
        Checks.due("the text", 15, y::clearText);
        y.undo();
        Checks.due("the state", Checks.state(Checks.rich()), () -> Checks.state(y));
        Checks.due("the states saved before", Checks.pastStates(Checks.rich(), 6), () -> Checks.pastStates(y, 6));
    }

    private static void undoableCalls() {
        terms("Each method that is described as undoable saves the state from before the call, unless it throws an "
                + "exception.");
        ContourLabels x = new ContourLabels();
        Checks.due("begin", 1, () -> saved(x, x.begin(5, 0)));
        Checks.due("step", 2, () -> saved(x, x.step(0, 0)));
        Checks.due("setLevel", 3, () -> saved(x, x.setLevel(0, 5)));
        Checks.due("label", 4, () -> saved(x, x.label(0, 0)));
        Checks.due("unlabel", 5, () -> saved(x, x.unlabel(0)));
        for (int undone = 0; undone < 3; undone++) {
            x.undo();
        }
        Checks.due("labelBest", 3, () -> saved(x, x.labelBest(0)));
        Checks.due("labelAll", 4, () -> saved(x, x.labelAll()));
        Checks.due("setGap", 5, () -> saved(x, x.setGap(2)));
        for (int undone = 0; undone < 4; undone++) {
            x.undo();
        }
        Checks.write(x, "w5");
        x.takeSnapshot();
        Checks.due("runText", 2, () -> saved(x, x.runText()));
        Checks.due("restoreSnapshot", 3, () -> saved(x, x.restoreSnapshot()));
        Checks.due("wipe", 4, () -> saved(x, x.wipe(0)));
        Checks.due("takeSnapshot saves nothing", 4, () -> saved(x, x.takeSnapshot()));
        Checks.due("append saves nothing", 4, () -> saved(x, x.append('a')));
        Checks.due("clearText saves nothing", 4, () -> saved(x, x.clearText()));
        Checks.due("a refused call saves nothing", Checks.INDEX, () -> x.wipe(0));
        Checks.due("a refused call saves nothing", Checks.ARGUMENT, x::runText);
        Checks.due("a refused call saves nothing", Checks.ARGUMENT, () -> x.setGap(7));
        Checks.due("saved states", 4, x::savedStates);
        Checks.due("undo", 3, () -> saved(x, x.undo()));
        questionsSaveNothing();
    }

    private static int saved(ContourLabels x, Object answer) {
        return x.savedStates();
    }

    private static void questionsSaveNothing() {
        Checks.savesNothing(Checks::busy, x -> {
            int sum = x.lines() + x.levelOf(0) + x.stepsOf(0) + x.pointOf(0, 0) + x.lineAt(0) + x.whyNotStepped(0, 0);
            sum += x.bendAt(0, 0) + x.gap() + x.labels() + x.labelOf(0) + x.readFrom(0) + x.sizeOf(0) + x.bendOf(0, 0);
            sum += x.whyNotLabelled(0, 0) + x.placesOf(0) + x.bestPlace(0) + x.tooNear() + x.pointsWithin(1);
            sum += x.lineRound(0) + x.lineByLevel(0) + x.errorPosition() + x.savedStates();
            boolean any = x.isClosed(0) | x.isTurned(0) | x.isWithinByRays(1, 0) | x.isWithinBySpreading(1, 0);
            return "" + sum + any + x.isSteady(0) + x.lengthByKinds(0) + x.lengthBySteps(0);
        });
    }

    private static void fiveStates() {
        terms("At most 5 states are saved; when one more is saved, the oldest one is dropped.");
        for (int calls = 0; calls <= 24; calls++) {
            ContourLabels x = new ContourLabels();
            for (int call = 0; call < calls; call++) {
                x.setGap(1 + (call + 2) % 6);
            }
            int saved = Math.min(5, calls);
            Checks.due("saved behind " + calls, saved, x::savedStates);
            for (int undone = 1; undone <= saved; undone++) {
                int left = saved - undone;
                int call = calls - undone;
                Checks.due("undo() " + undone, left, x::undo);
                Checks.due("the gap", call == 0 ? 2 : 1 + (call + 1) % 6, x::gap);
            }
            Checks.due("no more", Checks.STATE, x::undo);
            Checks.due("none", 0, x::savedStates);
            Checks.due("saving goes on", 1, () -> saved(x, x.setGap(6)));
        }
        // To and fro over the full row of states.
        ContourLabels x = new ContourLabels();
        for (int line = 0; line < 7; line++) {
            x.begin(line, line);
        }
        for (int round = 0; round < 12; round++) {
            Checks.due("undo", 4, x::undo);
            Checks.due("undo", 3, x::undo);
            Checks.due("lines", 5, x::lines);
            x.begin(50, 300);
            x.begin(51, 301);
            Checks.due("full again", 5, x::savedStates);
            Checks.due("lines", 7, x::lines);
            Checks.due("the last level", 51, () -> x.levelOf(6));
        }
        for (int left = 4; left >= 0; left--) {
            int lines = left + 2;
            Checks.due("undo", left, x::undo);
            Checks.due("lines", lines, x::lines);
        }
        Checks.due("no more", Checks.STATE, x::undo);
    }

    private static void snapshots() {
        terms("The snapshot is one more copy of the state that can be taken and restored.");
        ContourLabels x = Checks.full();
        String taken = Checks.state(x);
        x.takeSnapshot();
        for (int call = 0; call < 8; call++) {
            x.wipe(0);
        }
        x.setGap(5);
        Checks.due("it is no saved state", "8|7", () -> {
            x.restoreSnapshot();
            int lines = x.lines();
            x.undo();
            x.undo();
            x.undo();
            return lines + "|" + (x.lines() + 6);
        });
        Checks.due("restored", 8, x::restoreSnapshot);
        Checks.due("the state", taken, () -> Checks.state(x));
        x.setLevel(0, 77);
        x.step(7, 0);
        Checks.due("restored again", 8, x::restoreSnapshot);
        Checks.due("changes of the state do not change it", taken, () -> Checks.state(x));
        x.wipe(0);
        x.takeSnapshot();
        x.wipe(0);
        Checks.due("one alone: the last one that was taken", 7, x::restoreSnapshot);
    }

    private static void exceptions() {
        terms("A call that throws an exception changes nothing.");
        Checks.refused("begin", Checks::full, Checks.STATE, x -> x.begin(5, 30));
        Checks.refused("step", Checks::busy, Checks.STATE, x -> x.step(1, 0));
        Checks.refused("wipe", Checks::busy, Checks.INDEX, x -> x.wipe(3));
        Checks.refused("setLevel", Checks::busy, Checks.ARGUMENT, x -> x.setLevel(0, 100));
        Checks.refused("label", Checks::busy, Checks.STATE, x -> x.label(0, 5));
        Checks.refused("unlabel", Checks::busy, Checks.STATE, x -> x.unlabel(1));
        Checks.refused("labelBest", Checks::busy, Checks.STATE, x -> x.labelBest(1));
        Checks.refused("setGap", Checks::busy, Checks.ARGUMENT, x -> x.setGap(7));
        Checks.refused("append", Checks::full, Checks.STATE, x -> x.append('a'));
        Checks.refused("undo", () -> Checks.written("a"), Checks.STATE, ContourLabels::undo);
        Checks.refused("restoreSnapshot", () -> Checks.one(5, 0, "0"), Checks.STATE, ContourLabels::restoreSnapshot);
        terms("If several exceptions apply, the one that is listed first is thrown.");
        Checks.refused("begin: all three", Checks::full, Checks.INDEX, x -> x.begin(100, 384));
        Checks.refused("begin: the first two", Checks::busy, Checks.INDEX, x -> x.begin(100, 384));
        Checks.refused("begin: the first and the last", Checks::full, Checks.INDEX, x -> x.begin(5, -1));
        Checks.refused("begin: the last two", Checks::full, Checks.ARGUMENT, x -> x.begin(100, 0));
        Checks.refused("step: the first two", Checks::busy, Checks.INDEX, x -> x.step(3, 8));
        Checks.refused("step: the last two", Checks::busy, Checks.ARGUMENT, x -> x.step(1, 8));
        Checks.refused("setLevel", Checks::busy, Checks.INDEX, x -> x.setLevel(3, 100));
        Checks.refused("label: no such point, so no such place", Checks::busy, Checks.INDEX, x -> x.label(0, 7));
        Checks.refused("whyNotStepped", Checks::busy, Checks.INDEX, x -> x.whyNotStepped(3, 8));
        Checks.refused("append", Checks::full, Checks.ARGUMENT, x -> x.append(127));
        terms("An IndexOutOfBoundsException is thrown if there is no line, point of a line or point of the map with a given "
                + "number.");
        Checks.refused("no line", Checks::busy, Checks.INDEX, x -> x.levelOf(3));
        Checks.refused("no point of a line", Checks::busy, Checks.INDEX, x -> x.bendAt(0, 7));
        Checks.refused("no point of the map", Checks::busy, Checks.INDEX, x -> x.lineAt(384));
    }

    private static void undo() {
        Checks.sentence(42, "Restores the state that was saved last, and drops it.");
        ContourLabels x = Checks.rich();
        String before = Checks.state(x);
        x.wipe(0);
        x.undo();
        Checks.due("restored", before, () -> Checks.state(x));
        x.undo();
        Checks.due("the one before", 2, x::lines);
        Checks.due("its gap", 2, x::gap);
        x.undo();
        Checks.due("the first one", 0, x::lines);
        Checks.sentence(42, "Returns how many saved states are left.");
        ContourLabels y = Checks.busy();
        for (int left = 4; left >= 0; left--) {
            Checks.due("left", left, y::undo);
        }
        Checks.sentence(42, "Throws `IllegalStateException` if no state is saved");
        Checks.refused("new", ContourLabels::new, Checks.STATE, ContourLabels::undo);
        Checks.refused("all are undone", () -> {
            ContourLabels z = Checks.busy();
            Checks.pastStates(z, 5);
            return z;
        }, Checks.STATE, ContourLabels::undo);
        Checks.refused("a snapshot is no saved state", () -> {
            ContourLabels z = new ContourLabels();
            z.takeSnapshot();
            return z;
        }, Checks.STATE, ContourLabels::undo);
        // undo() is not undoable.
        ContourLabels z = Checks.one(5, 0, "0");
        Checks.due("left", 1, z::undo);
        Checks.due("left", 0, z::undo);
        Checks.due("none", Checks.STATE, z::undo);
    }

    private static void savedStates() {
        Checks.sentence(43, "Returns how many states are saved.");
        ContourLabels x = new ContourLabels();
        Checks.due("none", 0, x::savedStates);
        for (int call = 1; call <= 8; call++) {
            x.setGap(1);
            int due = Math.min(5, call);
            Checks.due("behind " + call, due, x::savedStates);
        }
        for (int left = 4; left >= 0; left--) {
            int due = left;
            x.undo();
            Checks.due("left", due, x::savedStates);
        }
        Checks.due("none to undo", Checks.STATE, x::undo);
        Checks.due("none", 0, x::savedStates);
    }

    private static void takeSnapshot() {
        Checks.sentence(44, "Takes a snapshot of the state, in place of the previous one.");
        ContourLabels x = Checks.rich();
        x.setGap(6);
        String taken = Checks.state(x);
        x.takeSnapshot();
        x.setGap(1);
        x.wipe(1);
        x.restoreSnapshot();
        Checks.due("the new one", taken, () -> Checks.state(x));
        Checks.savesNothing(Checks::busy, ContourLabels::takeSnapshot);
        Checks.sentence(44, "Returns how many lines there are.");
        ContourLabels y = new ContourLabels();
        for (int lines = 0; lines <= 8; lines++) {
            Checks.due("lines", lines, y::takeSnapshot);
            if (lines < 8) {
                y.begin(lines, lines);
            }
        }
    }

    private static void restoreSnapshot() {
        Checks.sentence(45, "Restores the state of the snapshot, which stays.");
        ContourLabels x = Checks.busy();
        Checks.due("restored", 2, x::restoreSnapshot);
        String taken = Checks.state(x);
        x.wipe(0);
        x.setGap(6);
        Checks.due("again", 2, x::restoreSnapshot);
        Checks.due("the state", taken, () -> Checks.state(x));
        Checks.due("the label", 1, () -> x.labelOf(0));
        Checks.due("the gap", 2, x::gap);
        Checks.sentence(45, "Undoable.");
        Checks.undoable(Checks::rich, ContourLabels::restoreSnapshot);
        Checks.undoable(Checks::busy, ContourLabels::restoreSnapshot);
        Checks.undoable(Checks::full, ContourLabels::restoreSnapshot);
        Checks.undoable(() -> {
            ContourLabels y = new ContourLabels();
            y.takeSnapshot();
            return y;
        }, ContourLabels::restoreSnapshot);
        Checks.sentence(45, "Returns how many lines there are then.");
        for (int lines = 0; lines <= 8; lines++) {
            ContourLabels y = new ContourLabels();
            for (int line = 0; line < lines; line++) {
                y.begin(line, line);
            }
            y.takeSnapshot();
            int wiped = lines;
            for (int line = 0; line < wiped; line++) {
                y.wipe(0);
            }
            y.begin(5, 200);
            Checks.due("lines", lines, y::restoreSnapshot);
        }
        Checks.sentence(45, "Throws `IllegalStateException` if there is no snapshot");
        Checks.refused("new", ContourLabels::new, Checks.STATE, ContourLabels::restoreSnapshot);
        Checks.refused("saved states are no snapshot", () -> Checks.one(5, 0, "000000"), Checks.STATE,
                ContourLabels::restoreSnapshot);
        ContourLabels z = new ContourLabels();
        z.takeSnapshot();
        Checks.due("one of an empty map", 0, z::restoreSnapshot);
    }

    private static void manyCalls() {
        Checks.sentence("What it is", "An object is used for at most 512 calls after it has been made; what later calls "
                + "answer is free.");
        ContourLabels x = new ContourLabels();
        for (int round = 0; round < 64; round++) {
            Checks.due("begin", 0, () -> x.begin(5, 200));
            Checks.due("step", false, () -> x.step(0, 0));
            Checks.due("labelBest", 0, () -> x.labelBest(0));
            Checks.due("takeSnapshot", 1, x::takeSnapshot);
            Checks.due("append", 1, () -> x.append('a'));
            Checks.due("runText", 1, x::runText);
            Checks.due("clearText", 1, x::clearText);
            Checks.due("wipe", 0, () -> x.wipe(0));
        }
    }
}
