/** Each promise of the document, with ordinary inputs, edges and wrong inputs. */
public final class PromisesTest {
    private static final String INDEX = "IndexOutOfBoundsException";
    private static final String ARGUMENT = "IllegalArgumentException";
    private static final String STATE = "IllegalStateException";
    private static final double SLANT = 1.4142135623730951;

    private static int wrong = 0;

    private interface Call {
        Object answer();
    }

    public static void main(String[] args) {
        newObject();
        begin();
        step();
        wipe();
        setLevel();
        label();
        unlabel();
        labelBest();
        labelAll();
        setGap();
        lines();
        pointsOfLines();
        closedLines();
        reasonsAgainstSteps();
        crossings();
        bends();
        lengths();
        gapAndLabels();
        turnedLabels();
        sizes();
        bendsOfPlaces();
        reasonsAgainstLabels();
        placesAndBest();
        tooNear();
        within();
        pockets();
        linesRound();
        levelsInOrder();
        buffer();
        errorPositions();
        runText();
        runTextStops();
        undo();
        undoableCalls();
        snapshot();
        extremes();
        System.out.println(wrong == 0 ? "all promises hold" : wrong + " answers are not as due");
        if (wrong != 0) {
            System.exit(1);
        }
    }

    private static String outcome(Call call) {
        try {
            return String.valueOf(call.answer());
        } catch (RuntimeException e) {
            return e.getClass().getSimpleName();
        }
    }

    private static void due(String what, Object want, Call call) {
        String got = outcome(call);
        if (!got.equals(String.valueOf(want))) {
            wrong++;
            System.out.println(what + " answered " + got + ", due is " + want);
        }
    }

    // A call that throws changes nothing, so it saves no state either.
    private static void refused(String what, ContourLabels x, String exception, Call call) {
        String before = look(x);
        due(what, exception, call);
        due(what + " changes nothing", before, () -> look(x));
    }

    private static String look(ContourLabels x) {
        StringBuilder all = new StringBuilder();
        all.append(x.lines()).append(" gap ").append(x.gap()).append(" saved ").append(x.savedStates());
        for (int line = 0; line < x.lines(); line++) {
            all.append("; ").append(x.levelOf(line)).append(' ').append(x.labelOf(line));
            for (int number = 0; number <= x.stepsOf(line); number++) {
                all.append(',').append(x.pointOf(line, number));
            }
        }
        return all.toString();
    }

    private static int point(int column, int row) {
        return 24 * row + column;
    }

    private static int line(ContourLabels x, int level, int point, String directions) {
        int line = x.begin(level, point);
        steps(x, line, directions);
        return line;
    }

    private static void steps(ContourLabels x, int line, String directions) {
        for (char direction : directions.toCharArray()) {
            x.step(line, direction - '0');
        }
    }

    private static void write(ContourLabels x, String text) {
        x.clearText();
        for (char sign : text.toCharArray()) {
            x.append(sign);
        }
    }

    // Promise 1
    private static void newObject() {
        ContourLabels x = new ContourLabels();
        due("1 NONE", -1, () -> ContourLabels.NONE);
        due("1 lines", 0, x::lines);
        due("1 labels", 0, x::labels);
        due("1 gap", 2, x::gap);
        due("1 tooNear", 0, x::tooNear);
        due("1 savedStates", 0, x::savedStates);
        due("1 errorPosition", 0, x::errorPosition);
        due("1 clearText", 0, x::clearText);
        for (int point = 0; point < 384; point++) {
            int here = point;
            due("1 lineAt", -1, () -> x.lineAt(here));
        }
        refused("1 no snapshot", x, STATE, x::restoreSnapshot);
    }

    // Promise 2
    private static void begin() {
        ContourLabels x = new ContourLabels();
        due("2 first", 0, () -> x.begin(0, 0));
        due("2 second", 1, () -> x.begin(99, 383));
        due("2 level", 99, () -> x.levelOf(1));
        due("2 point", 383, () -> x.pointOf(1, 0));
        due("2 no label", -1, () -> x.labelOf(1));
        due("2 saved", 2, x::savedStates);
        refused("2 no point", x, INDEX, () -> x.begin(100, -1));
        refused("2 no point above", x, INDEX, () -> x.begin(5, 384));
        refused("2 level below", x, ARGUMENT, () -> x.begin(-1, 0));
        refused("2 level above", x, ARGUMENT, () -> x.begin(100, 5));
        refused("2 taken", x, STATE, () -> x.begin(5, 0));
        x.step(0, 0);
        refused("2 taken by a step", x, STATE, () -> x.begin(5, 1));
        for (int number = 2; number < 8; number++) {
            int here = number;
            due("2 more", here, () -> x.begin(1, 100 + here));
        }
        refused("2 a ninth", x, STATE, () -> x.begin(5, 200));
        refused("2 a ninth with a wrong level", x, ARGUMENT, () -> x.begin(100, 200));
        refused("2 a ninth off the map", x, INDEX, () -> x.begin(100, 400));
    }

    // Promise 3
    private static void step() {
        ContourLabels x = new ContourLabels();
        refused("3 no line", x, INDEX, () -> x.step(0, 9));
        x.begin(5, point(10, 5));
        due("3 open", false, () -> x.step(0, 0));
        due("3 open", false, () -> x.step(0, 2));
        due("3 open", false, () -> x.step(0, 4));
        refused("3 direction below", x, ARGUMENT, () -> x.step(0, -1));
        refused("3 direction above", x, ARGUMENT, () -> x.step(0, 8));
        refused("3 no line below", x, INDEX, () -> x.step(-1, 0));
        refused("3 onto itself", x, STATE, () -> x.step(0, 0));
        due("3 saved", 4, x::savedStates);
        due("3 closes", true, () -> x.step(0, 6));
        refused("3 closed", x, STATE, () -> x.step(0, 6));
        refused("3 closed, wrong direction", x, ARGUMENT, () -> x.step(0, 8));

        ContourLabels y = new ContourLabels();
        line(y, 5, point(3, 3), "00");
        y.label(0, 0);
        y.step(0, 2);
        due("3 the label stays", 0, () -> y.labelOf(0));
        due("3 the label stays though bent", 2, () -> y.whyNotLabelled(0, 0) + y.bendAt(0, 1));
        y.undo();
        due("3 undone", 2, () -> y.stepsOf(0));
    }

    // Promise 4
    private static void wipe() {
        ContourLabels x = new ContourLabels();
        refused("4 no line", x, INDEX, () -> x.wipe(0));
        line(x, 5, point(1, 1), "00");
        line(x, 20, point(1, 4), "0000");
        line(x, 30, point(1, 8), "00000");
        x.label(0, 0);
        x.label(1, 1);
        x.label(2, 2);
        due("4 left", 2, () -> x.wipe(1));
        due("4 number", 30, () -> x.levelOf(1));
        due("4 steps", 5, () -> x.stepsOf(1));
        due("4 label", 2, () -> x.labelOf(1));
        due("4 point", point(1, 8), () -> x.pointOf(1, 0));
        due("4 lower number", 5, () -> x.levelOf(0));
        due("4 labels", 2, x::labels);
        due("4 free", -1, () -> x.lineAt(point(1, 4)));
        due("4 lineAt", 1, () -> x.lineAt(point(6, 8)));
        refused("4 above", x, INDEX, () -> x.wipe(2));
        refused("4 below", x, INDEX, () -> x.wipe(-1));
        x.undo();
        due("4 undone", 3, x::lines);
        due("4 undone label", 1, () -> x.labelOf(1));
        x.wipe(0);
        x.wipe(0);
        due("4 last", 0, () -> x.wipe(0));
        due("4 a new one", 0, () -> x.begin(7, 0));
        due("4 without a label", -1, () -> x.labelOf(0));
        due("4 without steps", 0, () -> x.stepsOf(0));
        for (int line = 0; line < 8; line++) {
            wipeOneOfEight(line);
        }
    }

    private static void wipeOneOfEight(int gone) {
        ContourLabels x = new ContourLabels();
        for (int line = 0; line < 8; line++) {
            line(x, line, point(line, 2 * line), "0".repeat(line));
            if (line > 0) {
                x.label(line, line - 1);
            }
        }
        String before = look(x).split("; ", 2)[1];
        due("4 seven left", 7, () -> x.wipe(gone));
        for (int line = 0; line < 7; line++) {
            int here = line;
            int was = line < gone ? line : line + 1;
            due("4 level", was, () -> x.levelOf(here));
            due("4 steps", was, () -> x.stepsOf(here));
            due("4 label", was == 0 ? -1 : was - 1, () -> x.labelOf(here));
            due("4 first point", point(was, 2 * was), () -> x.pointOf(here, 0));
            due("4 last point", point(2 * was, 2 * was), () -> x.pointOf(here, was));
        }
        due("4 the point is free", -1, () -> x.lineAt(point(gone, 2 * gone)));
        due("4 room again", 7, () -> x.begin(50, 383));
        x.undo();
        x.undo();
        due("42 all eight are back", before, () -> look(x).split("; ", 2)[1]);
        x.takeSnapshot();
        x.wipe(7 - gone);
        x.restoreSnapshot();
        due("45 all eight are back", before, () -> look(x).split("; ", 2)[1]);
    }

    // Promise 5
    private static void setLevel() {
        ContourLabels x = new ContourLabels();
        refused("5 no line", x, INDEX, () -> x.setLevel(0, 100));
        line(x, 5, point(1, 1), "00");
        x.label(0, 0);
        due("5 before", 5, () -> x.setLevel(0, 99));
        due("5 level", 99, () -> x.levelOf(0));
        due("5 the label goes", -1, () -> x.labelOf(0));
        x.label(0, 0);
        due("5 same", 99, () -> x.setLevel(0, 99));
        due("5 the label goes again", -1, () -> x.labelOf(0));
        due("5 lowest", 99, () -> x.setLevel(0, 0));
        refused("5 below", x, ARGUMENT, () -> x.setLevel(0, -1));
        refused("5 above", x, ARGUMENT, () -> x.setLevel(0, 100));
        refused("5 no line above", x, INDEX, () -> x.setLevel(1, 5));
        x.undo();
        due("5 undone", 99, () -> x.levelOf(0));
    }

    // Promise 6
    private static void label() {
        ContourLabels x = new ContourLabels();
        refused("6 no line", x, INDEX, () -> x.label(0, 0));
        line(x, 5, point(1, 1), "00010");
        due("6 straight", 0, () -> x.label(0, 0));
        due("6 place", 0, () -> x.labelOf(0));
        due("6 bent", 1, () -> x.label(0, 1));
        due("6 instead", 1, () -> x.labelOf(0));
        due("6 one label", 1, x::labels);
        refused("6 too bent", x, STATE, () -> x.label(0, 2));
        refused("6 no room", x, STATE, () -> x.label(0, 5));
        refused("6 no point", x, INDEX, () -> x.label(0, 6));
        refused("6 no point below", x, INDEX, () -> x.label(0, -1));
        refused("6 no line below", x, INDEX, () -> x.label(-1, 0));
        x.undo();
        due("6 undone", 0, () -> x.labelOf(0));
        line(x, 5, point(1, 2), "00");
        refused("6 too near", x, STATE, () -> x.label(1, 0));
    }

    // Promise 7
    private static void unlabel() {
        ContourLabels x = new ContourLabels();
        refused("7 no line", x, INDEX, () -> x.unlabel(0));
        line(x, 5, point(1, 1), "0000");
        refused("7 none", x, STATE, () -> x.unlabel(0));
        x.label(0, 2);
        due("7 place", 2, () -> x.unlabel(0));
        due("7 gone", -1, () -> x.labelOf(0));
        refused("7 none left", x, STATE, () -> x.unlabel(0));
        refused("7 no line above", x, INDEX, () -> x.unlabel(1));
        x.undo();
        due("7 undone", 2, () -> x.labelOf(0));
    }

    // Promise 8
    private static void labelBest() {
        ContourLabels x = new ContourLabels();
        refused("8 no line", x, INDEX, () -> x.labelBest(0));
        x.begin(5, point(1, 1));
        refused("8 no place", x, STATE, () -> x.labelBest(0));
        steps(x, 0, "0100000");
        due("8 least bend", 4, () -> x.labelBest(0));
        due("8 place", 4, () -> x.labelOf(0));
        due("8 its own label counts for nothing", 4, () -> x.labelBest(0));
        line(x, 5, point(5, 3), "00000000");
        due("8 furthest from the other", 7, () -> x.labelBest(1));
        refused("8 no line above", x, INDEX, () -> x.labelBest(2));
        x.undo();
        due("8 undone", -1, () -> x.labelOf(1));
    }

    // Promise 9
    private static void labelAll() {
        ContourLabels x = new ContourLabels();
        due("9 none", 0, x::labelAll);
        due("9 undoable", 1, x::savedStates);
        line(x, 30, point(1, 1), "00");
        line(x, 20, point(1, 2), "00");
        line(x, 20, point(1, 3), "00");
        line(x, 7, point(12, 1), "22");
        x.label(0, 0);
        due("9 by levels", 1, x::labelAll);
        due("9 the lower level", 0, () -> x.labelOf(1));
        due("9 the same level behind", -1, () -> x.labelOf(2));
        due("9 the old label is gone", -1, () -> x.labelOf(0));
        due("9 standing", -1, () -> x.labelOf(3));
        x.undo();
        due("9 undone", 0, () -> x.labelOf(0));
        due("9 undone", -1, () -> x.labelOf(1));
        x.setGap(1);
        due("9 with a small gap", 3, x::labelAll);
    }

    // Promises 10 and 21
    private static void setGap() {
        ContourLabels x = new ContourLabels();
        refused("10 below", x, ARGUMENT, () -> x.setGap(0));
        refused("10 above", x, ARGUMENT, () -> x.setGap(7));
        due("10 before", 2, () -> x.setGap(6));
        due("21 gap", 6, x::gap);
        due("10 before", 6, () -> x.setGap(1));
        due("10 undoable", 1, x::undo);
        due("10 undone", 6, x::gap);
        x.setGap(2);
        line(x, 5, point(1, 1), "0");
        line(x, 5, point(1, 3), "0");
        x.label(0, 0);
        x.label(1, 0);
        x.setGap(6);
        due("10 labels stay", 2, x::labels);
        due("10 though too near", 1, x::tooNear);
    }

    // Promises 11 to 13
    private static void lines() {
        ContourLabels x = new ContourLabels();
        due("12 no line", INDEX, () -> x.levelOf(0));
        due("13 no line", INDEX, () -> x.stepsOf(0));
        for (int number = 0; number < 8; number++) {
            x.begin(10 + number, 30 * number);
            due("11 lines", number + 1, x::lines);
        }
        due("12 level", 13, () -> x.levelOf(3));
        due("12 level", 17, () -> x.levelOf(7));
        due("12 above", INDEX, () -> x.levelOf(8));
        due("12 below", INDEX, () -> x.levelOf(-1));
        due("13 steps", 0, () -> x.stepsOf(3));
        steps(x, 3, "000");
        due("13 steps", 3, () -> x.stepsOf(3));
        due("13 above", INDEX, () -> x.stepsOf(8));
        due("13 below", INDEX, () -> x.stepsOf(Integer.MIN_VALUE));
    }

    // Promises 14 and 15
    private static void pointsOfLines() {
        ContourLabels x = new ContourLabels();
        due("14 no line", INDEX, () -> x.pointOf(0, 0));
        line(x, 5, point(10, 8), "01234567");
        int[][] way = {{10, 8}, {11, 8}, {12, 9}, {12, 10}, {11, 11}, {10, 11}, {9, 10}, {9, 9}, {10, 8}};
        for (int number = 0; number < way.length; number++) {
            int here = number;
            int there = point(way[number][0], way[number][1]);
            due("14 point " + number, there, () -> x.pointOf(0, here));
            due("15 line at " + there, 0, () -> x.lineAt(there));
        }
        due("14 above", INDEX, () -> x.pointOf(0, 9));
        due("14 below", INDEX, () -> x.pointOf(0, -1));
        due("14 no such line", INDEX, () -> x.pointOf(1, 0));
        x.begin(5, point(10, 9));
        due("15 another line", 1, () -> x.lineAt(point(10, 9)));
        due("15 none", -1, () -> x.lineAt(point(10, 10)));
        due("15 below", INDEX, () -> x.lineAt(-1));
        due("15 above", INDEX, () -> x.lineAt(384));
    }

    // Promise 16
    private static void closedLines() {
        ContourLabels x = new ContourLabels();
        due("16 no line", INDEX, () -> x.isClosed(0));
        line(x, 5, point(3, 3), "024");
        due("16 open", false, () -> x.isClosed(0));
        x.step(0, 6);
        due("16 closed", true, () -> x.isClosed(0));
        x.begin(5, point(8, 8));
        due("16 a point", false, () -> x.isClosed(1));
        due("16 above", INDEX, () -> x.isClosed(2));
        due("16 below", INDEX, () -> x.isClosed(-1));
    }

    // Promise 17
    private static void reasonsAgainstSteps() {
        ContourLabels x = new ContourLabels();
        due("17 no line", INDEX, () -> x.whyNotStepped(0, 8));
        x.begin(5, 0);
        due("17 direction below", ARGUMENT, () -> x.whyNotStepped(0, -1));
        due("17 direction above", ARGUMENT, () -> x.whyNotStepped(0, 8));
        String[] fromCorner = {"0", "0", "0", "3", "3", "3", "3", "3"};
        for (int direction = 0; direction < 8; direction++) {
            int here = direction;
            due("17 from the corner " + here, fromCorner[here], () -> x.whyNotStepped(0, here));
        }
        x.begin(5, 383);
        due("17 right of the map", 3, () -> x.whyNotStepped(1, 0));
        due("17 below the map", 3, () -> x.whyNotStepped(1, 2));
        due("17 left and down off the map", 3, () -> x.whyNotStepped(1, 3));
        due("17 right and up off the map", 3, () -> x.whyNotStepped(1, 7));
        due("17 left and up", 0, () -> x.whyNotStepped(1, 5));
        steps(x, 0, "02");
        due("17 a triangle does not close", 4, () -> x.whyNotStepped(0, 5));
        due("17 back", 4, () -> x.whyNotStepped(0, 6));
        x.step(0, 4);
        due("17 closes", 0, () -> x.whyNotStepped(0, 6));
        x.step(0, 6);
        due("17 closed", 1, () -> x.whyNotStepped(0, 6));
        due("17 closed, off the map", 1, () -> x.whyNotStepped(0, 4));
        x.begin(5, point(2, 0));
        due("17 another line's point", 4, () -> x.whyNotStepped(2, 4));

        ContourLabels y = new ContourLabels();
        line(y, 5, 0, "0".repeat(23) + "2" + "4".repeat(23) + "2" + "0".repeat(11));
        due("17 59 steps", 59, () -> y.stepsOf(0));
        due("17 one more", 0, () -> y.whyNotStepped(0, 0));
        y.step(0, 0);
        due("17 60 steps", 2, () -> y.whyNotStepped(0, 0));
        due("17 60 steps, taken", 2, () -> y.whyNotStepped(0, 6));
        refused("17 60 steps", y, STATE, () -> y.step(0, 0));

        ContourLabels z = new ContourLabels();
        line(z, 5, 0, "0".repeat(23) + "2".repeat(7) + "4".repeat(23) + "6".repeat(6));
        due("17 the last step can close", 0, () -> z.whyNotStepped(0, 6));
        due("17 the last step closes", true, () -> z.step(0, 6));
        due("17 closed ahead of 60 steps", 1, () -> z.whyNotStepped(0, 0));
    }

    // Promise 17: slanting steps never cross, of the same line or not
    private static void crossings() {
        int[][] starts = {{5, 5, 1}, {6, 6, 5}, {6, 5, 3}, {5, 6, 7}};
        for (int[] one : starts) {
            for (int[] other : starts) {
                ContourLabels x = new ContourLabels();
                line(x, 5, point(one[0], one[1]), "" + one[2]);
                int there = point(other[0], other[1]);
                if (x.lineAt(there) == ContourLabels.NONE) {
                    x.begin(5, there);
                    due("17 crosses", 5, () -> x.whyNotStepped(1, other[2]));
                    refused("3 crosses", x, STATE, () -> x.step(1, other[2]));
                }
            }
        }
        ContourLabels x = new ContourLabels();
        line(x, 5, point(5, 5), "16");
        due("17 crosses itself", 5, () -> x.whyNotStepped(0, 3));
        due("17 beside itself", 0, () -> x.whyNotStepped(0, 5));
        line(x, 5, point(4, 7), "7");
        due("17 beside, not across", 4, () -> x.whyNotStepped(1, 6));
        ContourLabels y = new ContourLabels();
        y.begin(5, point(5, 5));
        y.begin(5, point(6, 6));
        y.begin(5, point(5, 6));
        due("17 between points that no step joins", 0, () -> y.whyNotStepped(2, 7));
        ContourLabels ring = new ContourLabels();
        line(ring, 5, point(5, 5), "60124");
        due("17 a slanting step closes", 0, () -> ring.whyNotStepped(0, 5));
        line(ring, 5, point(6, 5), "3");
        due("17 a closing step that crosses", 5, () -> ring.whyNotStepped(0, 5));
    }

    // Promise 18
    private static void bends() {
        ContourLabels x = new ContourLabels();
        due("18 no line", INDEX, () -> x.bendAt(0, 0));
        x.begin(5, point(3, 2));
        due("18 a point", 0, () -> x.bendAt(0, 0));
        steps(x, 0, "013201766");
        int[] due = {0, 1, 2, 1, 2, 1, 2, 1, 0, 0};
        for (int number = 0; number < due.length; number++) {
            int here = number;
            due("18 bend " + here, due[here], () -> x.bendAt(0, here));
        }
        due("18 above", INDEX, () -> x.bendAt(0, 10));
        due("18 below", INDEX, () -> x.bendAt(0, -1));
        due("18 no such line", INDEX, () -> x.bendAt(1, 0));
        ContourLabels y = new ContourLabels();
        line(y, 5, point(7, 5), "254");
        due("18 sharp", 3, () -> y.bendAt(0, 1));
        due("18 to the other side", 1, () -> y.bendAt(0, 2));
        due("18 open first", 0, () -> y.bendAt(0, 0));
        due("18 open last", 0, () -> y.bendAt(0, 3));
        ContourLabels z = new ContourLabels();
        line(z, 5, point(5, 5), "0246");
        for (int number = 0; number <= 4; number++) {
            int here = number;
            due("18 closed " + here, 2, () -> z.bendAt(0, here));
        }
        ContourLabels straight = new ContourLabels();
        line(straight, 5, point(5, 5), "02446" + "0");
        due("18 closed at a straight point", true, () -> straight.isClosed(0));
        due("18 straight at the first point", 0, () -> straight.bendAt(0, 0));
        due("18 straight at the last point", 0, () -> straight.bendAt(0, 6));
    }

    // Promises 19 and 20
    private static void lengths() {
        ContourLabels x = new ContourLabels();
        due("19 no line", INDEX, () -> x.lengthByKinds(0));
        due("20 no line", INDEX, () -> x.lengthBySteps(0));
        x.begin(5, point(0, 0));
        due("19 a point", 0.0, () -> x.lengthByKinds(0));
        due("20 a point", 0.0, () -> x.lengthBySteps(0));
        double length = 0.0;
        String directions = "1011210110171012";
        int slanting = 0;
        for (int index = 0; index < directions.length(); index++) {
            int direction = directions.charAt(index) - '0';
            x.step(0, direction);
            slanting += direction % 2;
            length += direction % 2 == 1 ? SLANT : 1.0;
            double kinds = (double) (index + 1 - slanting) + (double) slanting * SLANT;
            double all = length;
            due("19 length", kinds, () -> x.lengthByKinds(0));
            due("20 length", all, () -> x.lengthBySteps(0));
        }
        due("19 above", INDEX, () -> x.lengthByKinds(1));
        due("20 above", INDEX, () -> x.lengthBySteps(1));
        due("19 below", INDEX, () -> x.lengthByKinds(-1));
        due("20 below", INDEX, () -> x.lengthBySteps(-1));
        ContourLabels y = new ContourLabels();
        line(y, 5, point(12, 2), "13355771");
        due("19 eight slanting steps", 11.313708498984761, () -> y.lengthByKinds(0));
        due("20 eight slanting steps", 11.313708498984763, () -> y.lengthBySteps(0));
    }

    // Promises 22 and 23
    private static void gapAndLabels() {
        ContourLabels x = new ContourLabels();
        due("23 no line", INDEX, () -> x.labelOf(0));
        line(x, 5, point(1, 1), "0000");
        line(x, 5, point(1, 9), "0000");
        due("22 none", 0, x::labels);
        due("23 none", -1, () -> x.labelOf(0));
        x.label(1, 3);
        due("22 one", 1, x::labels);
        due("23 place", 3, () -> x.labelOf(1));
        due("23 the other", -1, () -> x.labelOf(0));
        x.label(0, 0);
        due("22 two", 2, x::labels);
        due("23 above", INDEX, () -> x.labelOf(2));
        due("23 below", INDEX, () -> x.labelOf(-1));
    }

    // Promises 24 and 25
    private static void turnedLabels() {
        String[] directions = {"0", "1", "3", "4", "5", "7"};
        boolean[] turned = {false, false, true, true, true, false};
        for (int index = 0; index < directions.length; index++) {
            boolean left = turned[index];
            for (int level = 9; level <= 10; level++) {
                ContourLabels x = new ContourLabels();
                line(x, level, point(10, 8), directions[index].repeat(3));
                due("24 without a label", false, () -> x.isTurned(0));
                due("25 without a label", -1, () -> x.readFrom(0));
                x.label(0, 1);
                int from = left ? level - 7 : 1;
                due("24 turned", left, () -> x.isTurned(0));
                due("25 read from", x.pointOf(0, from), () -> x.readFrom(0));
            }
        }
        ContourLabels x = new ContourLabels();
        due("24 no line", INDEX, () -> x.isTurned(0));
        due("25 no line", INDEX, () -> x.readFrom(0));
        x.begin(5, 5);
        due("24 above", INDEX, () -> x.isTurned(1));
        due("25 above", INDEX, () -> x.readFrom(1));
        due("24 below", INDEX, () -> x.isTurned(-1));
        due("25 below", INDEX, () -> x.readFrom(-1));
    }

    // Promise 26
    private static void sizes() {
        ContourLabels x = new ContourLabels();
        due("26 no line", INDEX, () -> x.sizeOf(0));
        x.begin(0, 0);
        due("26 lowest", 2, () -> x.sizeOf(0));
        x.setLevel(0, 9);
        due("26 below 10", 2, () -> x.sizeOf(0));
        x.setLevel(0, 10);
        due("26 at 10", 3, () -> x.sizeOf(0));
        x.setLevel(0, 99);
        due("26 highest", 3, () -> x.sizeOf(0));
        due("26 above", INDEX, () -> x.sizeOf(1));
        due("26 below", INDEX, () -> x.sizeOf(-1));
    }

    // Promise 27
    private static void bendsOfPlaces() {
        ContourLabels x = new ContourLabels();
        due("27 no line", INDEX, () -> x.bendOf(0, 0));
        line(x, 5, point(5, 5), "00102");
        int[] two = {1, 2, 4, 4, 3, -1};
        for (int place = 0; place < two.length; place++) {
            int here = place;
            due("27 two points " + here, two[here], () -> x.bendOf(0, here));
        }
        x.setLevel(0, 10);
        int[] three = {2, 4, 4, 4, -1, -1};
        for (int place = 0; place < three.length; place++) {
            int here = place;
            due("27 three points " + here, three[here], () -> x.bendOf(0, here));
        }
        due("27 above", INDEX, () -> x.bendOf(0, 6));
        due("27 below", INDEX, () -> x.bendOf(0, -1));
        due("27 no such line", INDEX, () -> x.bendOf(1, 0));
        ContourLabels y = new ContourLabels();
        line(y, 5, point(5, 5), "000224446" + "6");
        int[] ring = {2, 4, 2, 4, 4, 2, 4, 2, 4, -1, -1};
        for (int place = 0; place < ring.length; place++) {
            int here = place;
            due("27 closed " + here, ring[here], () -> y.bendOf(0, here));
        }
        ContourLabels z = new ContourLabels();
        z.begin(5, 0);
        due("27 a point has no place", -1, () -> z.bendOf(0, 0));
    }

    // Promise 28
    private static void reasonsAgainstLabels() {
        ContourLabels x = new ContourLabels();
        due("28 no line", INDEX, () -> x.whyNotLabelled(0, 0));
        line(x, 5, point(2, 2), "0000002222");
        int[] due = {0, 0, 0, 0, 2, 2, 2, 2, 3, 3, 1};
        for (int place = 0; place < due.length; place++) {
            int here = place;
            due("28 place " + here, due[here], () -> x.whyNotLabelled(0, here));
        }
        due("28 above", INDEX, () -> x.whyNotLabelled(0, 11));
        due("28 below", INDEX, () -> x.whyNotLabelled(0, -1));
        due("28 no such line", INDEX, () -> x.whyNotLabelled(1, 0));
        x.label(0, 0);
        due("28 its own label is not in the way", 0, () -> x.whyNotLabelled(0, 1));
        line(x, 20, point(1, 3), "0000");
        int[] near = {4, 4, 4, 1, 1};
        for (int place = 0; place < near.length; place++) {
            int here = place;
            due("28 near " + here, near[here], () -> x.whyNotLabelled(1, here));
        }
        steps(x, 1, "00");
        due("28 nearer than the gap", 4, () -> x.whyNotLabelled(1, 3));
        due("28 as far as the gap", 0, () -> x.whyNotLabelled(1, 4));
        x.setGap(1);
        due("28 a small gap", 0, () -> x.whyNotLabelled(1, 0));
        x.setGap(3);
        due("28 a wider gap", 4, () -> x.whyNotLabelled(1, 4));
        ContourLabels y = new ContourLabels();
        line(y, 20, point(5, 5), "1211");
        due("28 two bends", 2, () -> y.whyNotLabelled(0, 0));
        ContourLabels z = new ContourLabels();
        line(z, 20, point(5, 5), "12");
        due("28 one bend is allowed, but it stands", 3, () -> z.whyNotLabelled(0, 0));
        ContourLabels up = new ContourLabels();
        line(up, 20, point(5, 8), "67");
        due("28 it stands upwards", 3, () -> up.whyNotLabelled(0, 0));
        ContourLabels slant = new ContourLabels();
        line(slant, 20, point(5, 5), "33");
        due("28 as far across as down", 0, () -> slant.whyNotLabelled(0, 0));
    }

    // Promises 29 and 30
    private static void placesAndBest() {
        ContourLabels x = new ContourLabels();
        due("29 no line", INDEX, () -> x.placesOf(0));
        due("30 no line", INDEX, () -> x.bestPlace(0));
        x.begin(5, point(2, 2));
        due("29 a point", 0, () -> x.placesOf(0));
        due("30 a point", -1, () -> x.bestPlace(0));
        steps(x, 0, "00000");
        due("29 straight", 5, () -> x.placesOf(0));
        due("30 the first one", 0, () -> x.bestPlace(0));
        line(x, 5, point(9, 2), "0");
        x.label(1, 0);
        due("29 one is still free", 5, () -> x.placesOf(0));
        x.setGap(4);
        due("29 fewer", 3, () -> x.placesOf(0));
        due("30 the furthest one", 0, () -> x.bestPlace(0));
        due("29 above", INDEX, () -> x.placesOf(2));
        due("30 above", INDEX, () -> x.bestPlace(2));
        due("29 below", INDEX, () -> x.placesOf(-1));
        due("30 below", INDEX, () -> x.bestPlace(-1));

        ContourLabels y = new ContourLabels();
        line(y, 5, point(2, 8), "0");
        y.label(0, 0);
        line(y, 5, point(5, 8), "000100000");
        due("30 the furthest one is the last", 8, () -> y.bestPlace(1));
        line(y, 5, point(22, 8), "0");
        y.label(2, 0);
        due("30 the nearest label counts", 7, () -> y.bestPlace(1));
        due("30 the least bend is ahead of the distance", 3, () -> {
            ContourLabels z = new ContourLabels();
            line(z, 5, point(1, 2), "0");
            z.label(0, 0);
            line(z, 5, point(5, 2), "0000001");
            return z.bestPlace(1);
        });
        due("30 the only place is bent", 0, () -> {
            ContourLabels z = new ContourLabels();
            line(z, 10, point(5, 5), "01");
            return z.bestPlace(0);
        });
        due("30 distance ties", 0, () -> {
            ContourLabels z = new ContourLabels();
            line(z, 5, point(5, 2), "0");
            z.label(0, 0);
            line(z, 5, point(5, 10), "0000");
            return z.bestPlace(1);
        });
    }

    // Promise 31
    private static void tooNear() {
        ContourLabels x = new ContourLabels();
        line(x, 5, point(2, 2), "0");
        line(x, 5, point(2, 4), "0");
        line(x, 5, point(6, 2), "0");
        line(x, 5, point(20, 12), "0");
        due("31 no labels", 0, x::tooNear);
        due("31 all", 4, x::labelAll);
        int[] pairs = {0, 0, 1, 3, 3, 3};
        for (int gap = 1; gap <= 6; gap++) {
            int here = gap;
            x.setGap(gap);
            due("31 gap " + here, pairs[here - 1], x::tooNear);
        }
        x.unlabel(0);
        due("31 one fewer", 1, x::tooNear);
    }

    // Promises 32 to 34
    private static void within() {
        ContourLabels x = new ContourLabels();
        due("32 no line", INDEX, () -> x.isWithinByRays(0, 0));
        due("33 no line", INDEX, () -> x.isWithinBySpreading(0, 0));
        due("34 no line", INDEX, () -> x.pointsWithin(0));
        line(x, 5, 0, "0000" + "222" + "4444" + "66");
        due("32 open", false, () -> x.isWithinByRays(0, point(1, 1)));
        due("33 open", false, () -> x.isWithinBySpreading(0, point(1, 1)));
        due("34 open", 0, () -> x.pointsWithin(0));
        x.step(0, 6);
        picture(x, ".....", ".###.", ".###.", ".....");
        due("34 closed", 6, () -> x.pointsWithin(0));
        due("32 no point", INDEX, () -> x.isWithinByRays(0, 384));
        due("33 no point", INDEX, () -> x.isWithinBySpreading(0, 384));
        due("32 no point below", INDEX, () -> x.isWithinByRays(0, -1));
        due("33 no point below", INDEX, () -> x.isWithinBySpreading(0, -1));
        due("32 no such line", INDEX, () -> x.isWithinByRays(1, 0));
        due("33 no such line", INDEX, () -> x.isWithinBySpreading(1, 0));
        due("34 no such line", INDEX, () -> x.pointsWithin(1));
        due("34 below", INDEX, () -> x.pointsWithin(-1));

        ContourLabels diamond = new ContourLabels();
        line(diamond, 5, point(3, 0), "111333555777");
        picture(diamond, ".......", "...#...", "..###..", ".#####.", "..###..", "...#...", ".......");

        ContourLabels corner = new ContourLabels();
        line(corner, 5, 383, "666444222000");
        due("34 at the lower right corner", 4, () -> corner.pointsWithin(0));
        due("32 at the lower right corner", true, () -> corner.isWithinByRays(0, point(22, 14)));
        due("33 at the lower right corner", true, () -> corner.isWithinBySpreading(0, point(22, 14)));
        due("33 beside the corner", false, () -> corner.isWithinBySpreading(0, point(19, 15)));
    }

    // A closed line can shut points off that it does not go round: between two of its steps side by
    // side there is a way out, but no point.
    private static void pockets() {
        ContourLabels x = new ContourLabels();
        line(x, 5, point(2, 1), "4" + "2222" + "0000" + "6666" + "44" + "2" + "0" + "22" + "44" + "666");
        due("33 a pocket behind a slit is closed", true, () -> x.isClosed(0));
        picture(x);

        ContourLabels y = new ContourLabels();
        line(y, 5, point(3, 4), "4" + "1" + "1" + "7" + "7" + "5" + "5" + "2" + "1" + "3" + "5");
        due("33 a pocket behind a slant is closed", true, () -> y.isClosed(0));
        due("32 behind a slant", false, () -> y.isWithinByRays(0, point(4, 4)));
        due("33 behind a slant", false, () -> y.isWithinBySpreading(0, point(4, 4)));
        due("34 behind a slant", 0, () -> y.pointsWithin(0));
    }

    private static void picture(ContourLabels x, String... rows) {
        int all = 0;
        for (int point = 0; point < 384; point++) {
            int here = point;
            int row = point / 24;
            int column = point % 24;
            boolean want = row < rows.length && column < rows[row].length() && rows[row].charAt(column) == '#';
            all += want ? 1 : 0;
            due("32 point " + column + " " + row, want, () -> x.isWithinByRays(0, here));
            due("33 point " + column + " " + row, want, () -> x.isWithinBySpreading(0, here));
        }
        due("34 points", all, () -> x.pointsWithin(0));
    }

    // Promises 35 and 36
    private static void linesRound() {
        ContourLabels x = new ContourLabels();
        due("35 no line", INDEX, () -> x.lineRound(0));
        due("36 no line", INDEX, () -> x.isSteady(0));
        line(x, 20, point(5, 5), "0246");
        line(x, 5, point(1, 1), "0000000000" + "2222222222" + "4444444444" + "6666666666");
        line(x, 10, point(4, 4), "000" + "222" + "444" + "666");
        line(x, 15, point(3, 3), "00000" + "22222" + "44444" + "66666");
        line(x, 0, point(13, 2), "0");
        line(x, 11, point(2, 2), "0");
        int[] round = {2, -1, 3, 1, -1, 1};
        boolean[] steady = {false, true, true, false, true, false};
        for (int line = 0; line < round.length; line++) {
            int here = line;
            due("35 round " + here, round[here], () -> x.lineRound(here));
            due("36 steady " + here, steady[here], () -> x.isSteady(here));
        }
        x.setLevel(0, 15);
        due("36 5 above", true, () -> x.isSteady(0));
        x.setLevel(5, 0);
        due("36 5 below", true, () -> x.isSteady(5));
        x.setLevel(5, 5);
        due("36 the same level", false, () -> x.isSteady(5));
        x.setLevel(5, 9);
        due("36 4 above", false, () -> x.isSteady(5));
        x.begin(20, point(10, 10));
        due("35 round a point", 1, () -> x.lineRound(6));
        due("35 above", INDEX, () -> x.lineRound(7));
        due("36 above", INDEX, () -> x.isSteady(7));
        due("35 below", INDEX, () -> x.lineRound(-1));
        due("36 below", INDEX, () -> x.isSteady(-1));
        ContourLabels y = new ContourLabels();
        line(y, 10, point(2, 2), "00224466");
        y.begin(15, point(3, 3));
        due("35 round a line behind it", 0, () -> y.lineRound(1));
        due("35 not round itself", -1, () -> y.lineRound(0));
    }

    // Promise 37
    private static void levelsInOrder() {
        ContourLabels x = new ContourLabels();
        due("37 none", INDEX, () -> x.lineByLevel(0));
        int[] levels = {30, 10, 30, 99, 0, 10, 10, 50};
        for (int number = 0; number < levels.length; number++) {
            x.begin(levels[number], 10 * number);
        }
        int[] order = {4, 1, 5, 6, 0, 2, 7, 3};
        for (int place = 0; place < order.length; place++) {
            int here = place;
            due("37 place " + here, order[here], () -> x.lineByLevel(here));
        }
        due("37 above", INDEX, () -> x.lineByLevel(8));
        due("37 below", INDEX, () -> x.lineByLevel(-1));
    }

    // Promises 38 and 39
    private static void buffer() {
        ContourLabels x = new ContourLabels();
        due("38 lowest", 1, () -> x.append(32));
        due("38 highest", 2, () -> x.append(126));
        due("38 below", ARGUMENT, () -> x.append(31));
        due("38 above", ARGUMENT, () -> x.append(127));
        due("38 far below", ARGUMENT, () -> x.append(Integer.MIN_VALUE));
        for (int length = 3; length <= 60; length++) {
            int here = length;
            due("38 length", here, () -> x.append('a'));
        }
        due("38 full", STATE, () -> x.append('a'));
        due("38 full, wrong code", ARGUMENT, () -> x.append(0));
        due("39 length", 60, x::clearText);
        due("39 empty", 0, x::clearText);
        due("38 from the start", 1, () -> x.append('a'));
        due("38 not undoable", 0, x::savedStates);
    }

    private static void error(String text, int position, boolean valid) {
        ContourLabels x = new ContourLabels();
        write(x, text);
        due("40 error position of " + text, position, x::errorPosition);
        due("41 validity of " + text, valid, () -> !outcome(x::runText).equals(ARGUMENT));
        due("41 the buffer stays: " + text, text.length(), x::clearText);
    }

    private static void valid(String text) {
        error(text, text.length(), true);
    }

    private static void unfinished(String text) {
        error(text, text.length(), false);
    }

    // Promise 40
    private static void errorPositions() {
        for (String text : new String[] {"a", "n0@0", "n99@383", "n10@39", "n9@199", "n5@300", "s0", "s7",
            "s01234567012345670123", "w0", "w7", "l0.0", "l7.59", "l3.9", "u0", "u7", "b0", "b7", "g1", "g6",
            "a;a", "n1@2;s0;w0;l0.1;u0;b0;a;g2", "a;a;a;a;a;a;a;a;a;a;a;a;a;a;a;a;a;a;a;a;a;a;a;a;a;a;a;a;a;a"}) {
            valid(text);
        }
        for (String text : new String[] {"", "n", "n0", "n9", "n99", "n0@", "s", "w", "l", "l0", "l0.", "u", "b",
            "g", "a;", "s0;", "n1@2;n", "s0;l3.",
            "a;a;a;a;a;a;a;a;a;a;a;a;a;a;a;a;a;a;a;a;a;a;a;a;a;a;a;a;a;n9"}) {
            unfinished(text);
        }
        error("x", 0, false);
        error(" a", 0, false);
        error(";", 0, false);
        error("0", 0, false);
        error("A", 0, false);
        error("a ", 1, false);
        error("aa", 1, false);
        error("a;;", 2, false);
        error("a;x", 2, false);
        error("n00@0", 2, false);
        error("n01@0", 2, false);
        error("n100@0", 3, false);
        error("n@5", 1, false);
        error("n-1@0", 1, false);
        error("n5;", 2, false);
        error("n5.5", 2, false);
        error("n5@;", 3, false);
        error("n5@00", 4, false);
        error("n5@384", 5, false);
        error("n5@390", 5, false);
        error("n5@400", 5, false);
        error("n5@999", 5, false);
        error("n5@3830", 6, false);
        error("n5@2999", 6, false);
        error("s8", 1, false);
        error("s;", 1, false);
        error("s018", 3, false);
        error("s012345670123456701234", 21, false);
        error("s01234567012345670123;s", 23, false);
        error("w8", 1, false);
        error("w00", 2, false);
        error("w10", 2, false);
        error("l8", 1, false);
        error("l0;", 2, false);
        error("l0@5", 2, false);
        error("l0.60", 4, false);
        error("l0.05", 4, false);
        error("l0.599", 5, false);
        error("l00.5", 2, false);
        error("u8", 1, false);
        error("u1.", 2, false);
        error("b8", 1, false);
        error("b0b", 2, false);
        error("g0", 1, false);
        error("g7", 1, false);
        error("g11", 2, false);
        error("a5", 1, false);
        error("a,a", 1, false);
        error("s0:s0", 2, false);
    }

    // Promise 41
    private static void runText() {
        ContourLabels x = new ContourLabels();
        refused("41 empty", x, ARGUMENT, x::runText);
        write(x, "n15@30;s0000;b0;n5@78;s4444;a;g3;l0.1;u1;w5");
        due("41 orders", 7, x::runText);
        due("41 saved once", 1, x::savedStates);
        due("41 lines", 2, x::lines);
        due("41 gap", 3, x::gap);
        due("41 begin and step", point(10, 1), () -> x.pointOf(0, 4));
        due("41 labelAll", 0, () -> x.labelOf(1));
        due("41 the buffer stays", 43, x::clearText);
        due("41 undo", 0, x::undo);
        due("41 undone as one call", 0, x::lines);
        due("41 undone gap", 2, x::gap);

        write(x, "n5@0;s00;l0.1;u0;l0.0;g4;n7@48;s0;w0");
        due("41 all of them", 9, x::runText);
        due("41 left", 1, x::lines);
        due("41 the other line", 7, () -> x.levelOf(0));
        due("41 gap", 4, x::gap);
        x.undo();
        write(x, "n5@0;s00;b0;u0;l0.1;n7@49;s0;s1;s2");
        due("41 steps of the last line", 9, x::runText);
        due("41 first", 2, () -> x.stepsOf(0));
        due("41 last", 3, () -> x.stepsOf(1));
        due("41 label", 1, () -> x.labelOf(0));
        write(x, "n5@0;");
        refused("41 unfinished", x, ARGUMENT, x::runText);
    }

    private static void stops(String text, int done, String left) {
        ContourLabels x = new ContourLabels();
        write(x, text);
        due("41 " + text, done, x::runText);
        due("41 saves: " + text, 1, x::savedStates);
        due("41 left by " + text, left, () -> look(x));
    }

    private static void runTextStops() {
        stops("s0", 0, "0 gap 2 saved 1");
        stops("w0;g3", 0, "0 gap 2 saved 1");
        stops("l0.0;g3", 0, "0 gap 2 saved 1");
        stops("u0;g3", 0, "0 gap 2 saved 1");
        stops("b0;g3", 0, "0 gap 2 saved 1");
        stops("a;g3", 2, "0 gap 3 saved 1");
        stops("n5@0;n5@0;g3", 1, "1 gap 2 saved 1; 5 -1,0");
        stops("n5@22;s000;g3", 1, "1 gap 2 saved 1; 5 -1,22,23");
        stops("n5@0;s024600;g3", 1, "1 gap 2 saved 1; 5 -1,0,1,25,24,0");
        stops("n5@0;s0;l0.2;g3", 2, "1 gap 2 saved 1; 5 -1,0,1");
        stops("n5@0;s0;l0.1;g3", 2, "1 gap 2 saved 1; 5 -1,0,1");
        stops("n5@0;s2;b0;g3", 2, "1 gap 2 saved 1; 5 -1,0,24");
        stops("n5@0;s0;u0;g3", 2, "1 gap 2 saved 1; 5 -1,0,1");
        stops("n1@0;n1@1;n1@2;n1@3;n1@4;n1@5;n1@6;n1@7;n1@8;g3", 8, "8 gap 2 saved 1; 1 -1,0; 1 -1,1; 1 -1,2; "
                + "1 -1,3; 1 -1,4; 1 -1,5; 1 -1,6; 1 -1,7");
    }

    // Promises 42 and 43
    private static void undo() {
        ContourLabels x = new ContourLabels();
        refused("42 nothing saved", x, STATE, x::undo);
        for (int number = 0; number < 7; number++) {
            x.begin(number, number * 2);
            int saved = Math.min(5, number + 1);
            due("43 saved", saved, x::savedStates);
        }
        for (int left = 4; left >= 0; left--) {
            int here = left;
            due("42 left", here, x::undo);
            due("42 lines", here + 2, x::lines);
            due("43 left", here, x::savedStates);
        }
        refused("42 nothing left", x, STATE, x::undo);
        x.begin(50, 100);
        x.append('a');
        x.takeSnapshot();
        x.undo();
        due("42 the buffer is not part of the state", 1, x::clearText);
        due("42 the snapshot is not part of the state", 3, x::restoreSnapshot);
        due("42 and undoable", 0, x::undo);
        due("42 back", 2, x::lines);
    }

    // Every undoable call saves one state, even if it changes nothing.
    private static void undoableCalls() {
        ContourLabels x = new ContourLabels();
        x.setGap(2);
        due("10 saves", 1, x::savedStates);
        x.undo();
        x.begin(5, 0);
        due("2 saves", 1, x::savedStates);
        x.step(0, 0);
        due("3 saves", 2, x::savedStates);
        x.setLevel(0, 5);
        due("5 saves", 3, x::savedStates);
        x.label(0, 0);
        due("6 saves", 4, x::savedStates);
        x.undo();
        x.labelBest(0);
        due("8 saves", 4, x::savedStates);
        x.unlabel(0);
        due("7 saves", 5, x::savedStates);
        x.undo();
        x.undo();
        x.labelAll();
        due("9 saves", 4, x::savedStates);
        x.undo();
        x.takeSnapshot();
        due("44 saves nothing", 3, x::savedStates);
        x.restoreSnapshot();
        due("45 saves", 4, x::savedStates);
        x.undo();
        x.wipe(0);
        due("4 saves", 4, x::savedStates);
    }

    // Promises 44 and 45
    private static void snapshot() {
        ContourLabels x = new ContourLabels();
        refused("45 none", x, STATE, x::restoreSnapshot);
        due("44 empty", 0, x::takeSnapshot);
        line(x, 20, point(3, 3), "000000");
        x.label(0, 2);
        x.setGap(5);
        due("45 the empty one", 0, x::restoreSnapshot);
        due("45 gap", 2, x::gap);
        x.undo();
        due("45 undone", 1, x::lines);
        due("44 another", 1, x::takeSnapshot);
        x.wipe(0);
        x.setGap(1);
        x.begin(7, 7);
        x.begin(7, 9);
        due("45 restored", 1, x::restoreSnapshot);
        due("45 label", 2, () -> x.labelOf(0));
        due("45 gap", 5, x::gap);
        due("45 level", 20, () -> x.levelOf(0));
        x.step(0, 2);
        x.setLevel(0, 3);
        due("45 it stays", 1, x::restoreSnapshot);
        due("45 steps", 6, () -> x.stepsOf(0));
        due("45 level", 20, () -> x.levelOf(0));
    }

    // Numbers far out of range, in every argument.
    private static void extremes() {
        ContourLabels x = new ContourLabels();
        line(x, 5, point(3, 3), "0000");
        for (int far : new int[] {Integer.MIN_VALUE, Integer.MIN_VALUE + 1, -25, 384, Integer.MAX_VALUE - 1,
            Integer.MAX_VALUE}) {
            refused("2 far point", x, INDEX, () -> x.begin(5, far));
            refused("2 far level", x, ARGUMENT, () -> x.begin(far, 0));
            refused("3 far line", x, INDEX, () -> x.step(far, 0));
            refused("3 far direction", x, ARGUMENT, () -> x.step(0, far));
            refused("4 far", x, INDEX, () -> x.wipe(far));
            refused("5 far line", x, INDEX, () -> x.setLevel(far, 5));
            refused("5 far level", x, ARGUMENT, () -> x.setLevel(0, far));
            refused("6 far line", x, INDEX, () -> x.label(far, 0));
            refused("6 far place", x, INDEX, () -> x.label(0, far));
            refused("7 far", x, INDEX, () -> x.unlabel(far));
            refused("8 far", x, INDEX, () -> x.labelBest(far));
            refused("10 far", x, ARGUMENT, () -> x.setGap(far));
            due("12 far", INDEX, () -> x.levelOf(far));
            due("13 far", INDEX, () -> x.stepsOf(far));
            due("14 far", INDEX, () -> x.pointOf(0, far));
            due("15 far", INDEX, () -> x.lineAt(far));
            due("16 far", INDEX, () -> x.isClosed(far));
            due("17 far line", INDEX, () -> x.whyNotStepped(far, 0));
            due("17 far direction", ARGUMENT, () -> x.whyNotStepped(0, far));
            due("18 far", INDEX, () -> x.bendAt(0, far));
            due("27 far", INDEX, () -> x.bendOf(0, far));
            due("28 far", INDEX, () -> x.whyNotLabelled(0, far));
            due("32 far", INDEX, () -> x.isWithinByRays(0, far));
            due("33 far", INDEX, () -> x.isWithinBySpreading(0, far));
            due("35 far", INDEX, () -> x.lineRound(far));
            due("37 far", INDEX, () -> x.lineByLevel(far));
            due("38 far", ARGUMENT, () -> x.append(far));
        }
    }
}
