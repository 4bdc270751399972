import java.util.function.Function;
import java.util.function.Supplier;

/** The boundaries that the promises 1 to 37 name: changes of lines and labels, what is told of them, within. */
final class CallBoundaries {
    private static final String NO_LINE = "Throws `IndexOutOfBoundsException` if there is no such line";
    private static final String NO_LINE_OR_NUMBER = "Throws `IndexOutOfBoundsException` if there is no such line, or it "
            + "has no such point";
    private static final String NO_LINE_OR_POINT = "Throws `IndexOutOfBoundsException` if there is no such line or point "
            + "of the map";
    private static final String NO_POINT = "Throws `IndexOutOfBoundsException` if there is no such point of the map";
    private static final String NO_LEVEL = "Throws `IllegalArgumentException` if level is out of range";
    private static final String NO_DIRECTION = "Throws `IllegalArgumentException` if direction is out of range";
    private static final String NUMBER = "`number`: the number of the point of the line, 0 to stepsOf()";
    private static final String PLACE = "`place`: the number of its first point";
    private static final int[] FAR = {Checks.LEAST, Checks.LEAST + 1, -8, -2, -1, 8, 9, 61, 488, Checks.MOST};
    private static final String SNAKE = "0".repeat(23) + "2" + "4".repeat(23) + "2" + "0".repeat(12);
    // 60 slanting steps from the upper left corner, in a spiral.
    private static final String SPIRAL = "1".repeat(15) + "7".repeat(8) + "5".repeat(7) + "3".repeat(7) + "1".repeat(6)
            + "7".repeat(6) + "5".repeat(5) + "3".repeat(5) + "1";

    private interface LineCall {
        Object of(ContourLabels x, int line);
    }

    private interface PairCall {
        Object of(ContourLabels x, int line, int other);
    }

    private CallBoundaries() {
    }

    static void all() {
        newObject();
        begin();
        beginRefused();
        step();
        stepRefused();
        wipe();
        setLevel();
        label();
        labelRefused();
        unlabel();
        labelBest();
        labelAll();
        labelAllInOrder();
        setGap();
        undoable();
        lineNumbers();
        numbersOfPoints();
        pointsOfTheMap();
        lines();
        pointOf();
        lineAt();
        closed();
        whyNotStepped();
        whyNotSteppedFirst();
        bendAt();
        lengths();
        gapAndLabels();
        labelOf();
        readFrom();
        sizeAndBend();
        whyNotLabelled();
        whyNotLabelledFirst();
        places();
        tooNear();
        within();
        lineRound();
        lineByLevel();
    }

    private static void newObject() {
        Checks.sentence(1, "The map is empty.");
        Checks.busy();
        Checks.full();
        ContourLabels x = new ContourLabels();
        Checks.due("lines", 0, x::lines);
        Checks.due("labels", 0, x::labels);
        Checks.due("near", 0, x::tooNear);
        Checks.due("gap", 2, x::gap);
        Checks.due("saved states", 0, x::savedStates);
        Checks.due("text", 0, x::errorPosition);
        for (int point = 0; point < 384; point++) {
            int here = point;
            Checks.due("the line at " + here, Checks.NONE, () -> x.lineAt(here));
        }
        Checks.due("no text", 0, x::clearText);
        Checks.refused("nothing to undo", ContourLabels::new, Checks.STATE, ContourLabels::undo);
        Checks.refused("no snapshot", ContourLabels::new, Checks.STATE, ContourLabels::restoreSnapshot);
        Checks.due("labelAll", 0, x::labelAll);
    }

    private static void begin() {
        Checks.sentence(2, "Begins a line.");
        ContourLabels x = Checks.rich();
        x.begin(50, 100);
        Checks.due("lines", 4, x::lines);
        Checks.due("its level", 50, () -> x.levelOf(3));
        Checks.due("its steps", 0, () -> x.stepsOf(3));
        Checks.due("its point", 100, () -> x.pointOf(3, 0));
        Checks.due("at its point", 3, () -> x.lineAt(100));
        Checks.due("its label", Checks.NONE, () -> x.labelOf(3));
        Checks.due("open", false, () -> x.isClosed(3));
        // A line that was wiped out leaves nothing to the one that gets its number.
        x.wipe(2);
        x.wipe(2);
        x.begin(5, 300);
        Checks.due("no label", Checks.NONE, () -> x.labelOf(2));
        Checks.due("no steps", 0, () -> x.stepsOf(2));
        Checks.sentence(2, "`level`: 0 to 99");
        for (int level : new int[] {0, 1, 98, 99}) {
            ContourLabels y = Checks.rich();
            Checks.due("with " + level, 3, () -> y.begin(level, 0));
            Checks.due("the level", level, () -> y.levelOf(3));
        }
        Checks.sentence(2, "`point`: the point of the map at which it begins");
        for (int point : new int[] {0, 23, 24, 360, 382, 383}) {
            ContourLabels y = Checks.rich();
            Checks.due("at " + point, 3, () -> y.begin(5, point));
            Checks.due("the point", point, () -> y.pointOf(3, 0));
        }
        Checks.sentence(2, "Returns its number.");
        ContourLabels eight = new ContourLabels();
        for (int line = 0; line < 8; line++) {
            int number = line;
            Checks.due("the line " + number, number, () -> eight.begin(5, 383 - number));
        }
        eight.wipe(3);
        Checks.due("the last number again", 7, () -> eight.begin(5, 0));
    }

    private static void beginRefused() {
        Checks.sentence(2, NO_POINT);
        for (int point : new int[] {-1, 384, Checks.LEAST, Checks.MOST}) {
            Checks.refused("empty, at " + point, ContourLabels::new, Checks.INDEX, x -> x.begin(5, point));
            Checks.refused("wrong level, at " + point, Checks::busy, Checks.INDEX, x -> x.begin(100, point));
            Checks.refused("8 lines, at " + point, Checks::full, Checks.INDEX, x -> x.begin(5, point));
            Checks.refused("8 lines, wrong level, at " + point, Checks::full, Checks.INDEX, x -> x.begin(-1, point));
        }
        Checks.sentence(2, NO_LEVEL);
        for (int level : new int[] {-1, 100, Checks.LEAST, Checks.MOST}) {
            Checks.refused("empty, with " + level, ContourLabels::new, Checks.ARGUMENT, x -> x.begin(level, 0));
            Checks.refused("taken, with " + level, Checks::busy, Checks.ARGUMENT, x -> x.begin(level, 50));
            Checks.refused("8 lines, with " + level, Checks::full, Checks.ARGUMENT, x -> x.begin(level, 30));
            Checks.refused("8 lines, taken, " + level, Checks::full, Checks.ARGUMENT, x -> x.begin(level, 0));
        }
        Checks.sentence(2, "Throws `IllegalStateException` if there are 8 lines, or a line has this point");
        Checks.refused("8 lines", Checks::full, Checks.STATE, x -> x.begin(5, 30));
        Checks.refused("8 lines, taken", Checks::full, Checks.STATE, x -> x.begin(5, 0));
        for (int point : new int[] {50, 53, 56, 146, 147, 170, 171, 220, 221}) {
            Checks.refused("taken " + point, Checks::busy, Checks.STATE, x -> x.begin(5, point));
        }
        ContourLabels seven = Checks.full();
        seven.wipe(7);
        Checks.due("7 lines", 7, () -> seven.begin(5, 48 * 7));
        ContourLabels free = Checks.busy();
        free.wipe(0);
        Checks.due("the points are free again", 2, () -> free.begin(5, 53));
    }

    private static void step() {
        Checks.sentence(3, "Adds a step to a line.");
        ContourLabels x = Checks.rich();
        x.step(0, 2);
        Checks.due("steps", 7, () -> x.stepsOf(0));
        Checks.due("the last point", 80, () -> x.pointOf(0, 7));
        Checks.due("the point before it", 56, () -> x.pointOf(0, 6));
        Checks.due("the other line", 3, () -> x.stepsOf(2));
        Checks.sentence(3, "Its label stays.");
        Checks.due("there", 1, () -> x.labelOf(0));
        ContourLabels bent = Checks.one(5, 200, "0");
        bent.label(0, 0);
        bent.step(0, 2);
        Checks.due("the place is bent now", 2, () -> bent.whyNotLabelled(0, 0));
        Checks.due("there all the same", 0, () -> bent.labelOf(0));
        ContourLabels closing = Checks.one(5, 200, "0002444");
        closing.label(0, 6);
        closing.step(0, 6);
        Checks.due("there when the line is closed, too", 6, () -> closing.labelOf(0));
        Checks.due("as it was", 224, () -> closing.readFrom(0));
        Checks.sentence(3, "`direction`: 0 to 7");
        int[] beside = {1, 25, 24, 23, -1, -25, -24, -23};
        for (int direction = 0; direction < 8; direction++) {
            int way = direction;
            ContourLabels y = Checks.one(5, 200, "");
            Checks.due("to " + way, false, () -> y.step(0, way));
            Checks.due("the point", 200 + beside[way], () -> y.pointOf(0, 1));
        }
        Checks.sentence(3, "Returns whether it is closed then.");
        ContourLabels ring = Checks.one(5, 200, "");
        String way = "0022446";
        for (int number = 0; number < way.length(); number++) {
            int direction = way.charAt(number) - '0';
            Checks.due("the step " + number, false, () -> ring.step(0, direction));
        }
        Checks.due("the last step", true, () -> ring.step(0, 6));
    }

    private static void stepRefused() {
        Checks.sentence(3, NO_DIRECTION);
        for (int direction : new int[] {-1, 8, 9, Checks.LEAST, Checks.MOST}) {
            Checks.refused("to " + direction, Checks::busy, Checks.ARGUMENT, x -> x.step(0, direction));
            Checks.refused("closed, to " + direction, Checks::busy, Checks.ARGUMENT, x -> x.step(1, direction));
            Checks.refused("60 steps, to " + direction, () -> Checks.one(5, 0, SNAKE), Checks.ARGUMENT,
                    x -> x.step(0, direction));
        }
        Checks.sentence(3, "Throws `IllegalStateException` if whyNotStepped() is above 0");
        Checks.refused("1", () -> Checks.one(5, 200, "0246"), Checks.STATE, x -> x.step(0, 0));
        Checks.refused("2", () -> Checks.one(5, 0, SNAKE), Checks.STATE, x -> x.step(0, 0));
        Checks.refused("3", () -> Checks.one(5, 0, "0"), Checks.STATE, x -> x.step(0, 6));
        Checks.refused("4", Checks::busy, Checks.STATE, x -> x.step(0, 4));
        Checks.refused("5", CallBoundaries::acrossTheLineOne, Checks.STATE, x -> x.step(0, 3));
        Checks.refused("1, in a busy map", Checks::busy, Checks.STATE, x -> x.step(1, 4));
    }

    /** A step 3 of the line 0 would cross a step of the line 1. */
    private static ContourLabels acrossTheLineOne() {
        ContourLabels x = Checks.one(5, 201, "");
        Checks.line(x, 5, 200, "1");
        return x;
    }

    private static void wipe() {
        Checks.sentence(4, "Wipes a line out, with its label.");
        for (int gone = 0; gone < 8; gone++) {
            int line = gone;
            ContourLabels x = Checks.full();
            x.setGap(1);
            x.setLevel(line, 50);
            x.label(line, 0);
            int labels = x.labels();
            Checks.due("left of 8", 7, () -> x.wipe(line));
            Checks.due("its label is gone", labels - 1, x::labels);
            Checks.due("its first point is free", Checks.NONE, () -> x.lineAt(48 * line));
            Checks.due("its last point is free", Checks.NONE, () -> x.lineAt(48 * line + 2));
            Checks.due("the label of the first line", line == 0 ? Checks.NONE : 0, () -> x.labelOf(0));
            Checks.due("the label of the last line", line == 7 ? Checks.NONE : 0, () -> x.labelOf(6));
            x.undo();
            Checks.due("the label is back", 0, () -> x.labelOf(line));
            Checks.due("the line is back", line, () -> x.lineAt(48 * line + 2));
        }
        Checks.sentence(4, "Returns how many lines are left.");
        ContourLabels x = Checks.full();
        for (int left = 7; left >= 0; left--) {
            Checks.due("left", left, () -> x.wipe(0));
        }
        Checks.due("none is left", Checks.INDEX, () -> x.wipe(0));
    }

    private static void setLevel() {
        Checks.sentence(5, "Changes the level of a line; its label goes.");
        ContourLabels x = Checks.rich();
        x.setLevel(0, 21);
        Checks.due("the level", 21, () -> x.levelOf(0));
        Checks.due("its label", Checks.NONE, () -> x.labelOf(0));
        Checks.due("another line's level", 5, () -> x.levelOf(1));
        Checks.due("another line's label", 0, () -> x.labelOf(2));
        x.setLevel(2, 7);
        Checks.due("its label goes, with the same level too", Checks.NONE, () -> x.labelOf(2));
        Checks.due("its steps stay", 3, () -> x.stepsOf(2));
        Checks.sentence(5, "`level`: 0 to 99");
        for (int level : new int[] {0, 1, 98, 99}) {
            Checks.allowed("to " + level, () -> x.setLevel(1, level));
            Checks.due("the level", level, () -> x.levelOf(1));
        }
        Checks.sentence(5, "Returns the level before.");
        Checks.due("the highest", 99, () -> x.setLevel(1, 0));
        Checks.due("the lowest", 0, () -> x.setLevel(1, 0));
        Checks.due("the same", 0, () -> x.setLevel(1, 50));
        Checks.sentence(5, NO_LEVEL);
        for (int level : new int[] {-1, 100, Checks.LEAST, Checks.MOST}) {
            Checks.refused("to " + level, Checks::busy, Checks.ARGUMENT, y -> y.setLevel(2, level));
        }
    }

    private static void label() {
        Checks.sentence(6, "Sets the label of a line at a place, in place of the one that it has.");
        ContourLabels x = Checks.rich();
        x.label(0, 4);
        Checks.due("there", 4, () -> x.labelOf(0));
        Checks.due("labels", 2, x::labels);
        x.label(0, 0);
        Checks.due("there", 0, () -> x.labelOf(0));
        Checks.due("the other line's label", 0, () -> x.labelOf(2));
        Checks.sentence(6, PLACE);
        for (int place = 0; place <= 4; place++) {
            int here = place;
            ContourLabels y = Checks.rich();
            Checks.due("at " + here, 0, () -> y.label(0, here));
            Checks.due("the place", here, () -> y.labelOf(0));
        }
        for (int place : new int[] {5, 6}) {
            Checks.refused("at " + place, Checks::busy, Checks.STATE, y -> y.label(0, place));
        }
        for (int place : new int[] {-1, 7, Checks.LEAST, Checks.MOST}) {
            Checks.refused("at " + place, Checks::busy, Checks.INDEX, y -> y.label(0, place));
        }
        Checks.sentence(6, "Returns the bend of the place.");
        ContourLabels bent = Checks.one(5, 200, "0001");
        int[] bends = {0, 1, 1, 1};
        for (int place = 0; place < bends.length; place++) {
            int here = place;
            Checks.due("at " + here, bends[here], () -> bent.label(0, here));
        }
    }

    private static void labelRefused() {
        Checks.sentence(6, "Throws `IllegalStateException` if whyNotLabelled() is above 0");
        Checks.refused("1", () -> Checks.one(5, 200, "00"), Checks.STATE, x -> x.label(0, 2));
        Checks.refused("1, a point", () -> Checks.one(5, 200, ""), Checks.STATE, x -> x.label(0, 0));
        Checks.refused("2", Checks::busy, Checks.STATE, x -> x.label(1, 0));
        Checks.refused("3", () -> Checks.one(5, 200, "22"), Checks.STATE, x -> x.label(0, 0));
        Checks.refused("4", CallBoundaries::nearToALabel, Checks.STATE, x -> x.label(1, 0));
        Checks.refused("4, in place of its own", CallBoundaries::nearWithALabel, Checks.STATE, x -> x.label(1, 0));
    }

    private static ContourLabels nearToALabel() {
        ContourLabels x = Checks.one(5, 200, "00");
        x.label(0, 0);
        Checks.line(x, 5, 224, "000000");
        return x;
    }

    private static ContourLabels nearWithALabel() {
        ContourLabels x = nearToALabel();
        x.label(1, 5);
        return x;
    }

    private static void unlabel() {
        Checks.sentence(7, "Takes the label of a line away.");
        ContourLabels x = Checks.rich();
        x.unlabel(0);
        Checks.due("gone", Checks.NONE, () -> x.labelOf(0));
        Checks.due("the other one stays", 0, () -> x.labelOf(2));
        Checks.due("labels", 1, x::labels);
        Checks.sentence(7, "Returns the place where it was.");
        for (int place = 0; place <= 4; place++) {
            int here = place;
            x.label(0, here);
            Checks.due("the place", here, () -> x.unlabel(0));
        }
        Checks.sentence(7, "Throws `IllegalStateException` if it has none");
        Checks.refused("never", Checks::busy, Checks.STATE, y -> y.unlabel(1));
        Checks.refused("any more", () -> {
            ContourLabels y = Checks.busy();
            y.unlabel(0);
            return y;
        }, Checks.STATE, y -> y.unlabel(0));
        Checks.refused("with 8 lines", Checks::full, Checks.STATE, y -> y.unlabel(6));
    }

    private static void labelBest() {
        Checks.sentence(8, "Sets the label of a line at its best place, in place of the one that it has.");
        ContourLabels x = Checks.rich();
        int best = x.bestPlace(0);
        x.labelBest(0);
        Checks.due("there", best, () -> x.labelOf(0));
        x.label(0, 4);
        x.labelBest(0);
        Checks.due("there again", best, () -> x.labelOf(0));
        Checks.due("labels", 2, x::labels);
        Checks.sentence(8, "Returns the place.");
        ContourLabels far = Checks.one(5, 200, "0100000");
        Checks.due("the place", 4, () -> far.labelBest(0));
        Checks.due("the place again", 4, () -> far.labelBest(0));
        Checks.due("the first place", 0, () -> Checks.one(5, 200, "0").labelBest(0));
        Checks.sentence(8, "Throws `IllegalStateException` if it has no place with whyNotLabelled() 0");
        Checks.refused("a point", () -> Checks.one(5, 200, ""), Checks.STATE, y -> y.labelBest(0));
        Checks.refused("too short", () -> Checks.one(10, 200, "0"), Checks.STATE, y -> y.labelBest(0));
        Checks.refused("bent", Checks::busy, Checks.STATE, y -> y.labelBest(1));
        Checks.refused("standing", () -> Checks.one(5, 200, "222"), Checks.STATE, y -> y.labelBest(0));
        Checks.refused("too near", () -> {
            ContourLabels y = Checks.one(5, 200, "0");
            y.label(0, 0);
            Checks.line(y, 5, 224, "0");
            return y;
        }, Checks.STATE, y -> y.labelBest(1));
        Checks.refused("with its own label where it cannot be set any more", () -> {
            ContourLabels y = Checks.one(5, 200, "0");
            y.label(0, 0);
            y.step(0, 2);
            return y;
        }, Checks.STATE, y -> y.labelBest(0));
    }

    private static void labelAll() {
        Checks.sentence(9, "Takes all labels away, then labels the lines, by their levels from the lowest on, those with "
                + "the same one by their numbers, each at its best place then, if it has one.");
        // Two lines side by side: only the one whose turn is first gets a label.
        int[][] levels = {{5, 4}, {4, 5}, {5, 5}, {99, 0}, {0, 99}, {20, 10}, {10, 9}, {9, 10}};
        for (int[] both : levels) {
            ContourLabels x = Checks.one(both[0], 200, "00");
            Checks.line(x, both[1], 224, "00");
            boolean isFirst = both[0] <= both[1];
            x.label(isFirst ? 1 : 0, 0);
            Checks.due("labels", 1, x::labelAll);
            Checks.due("the line 0", isFirst ? 0 : Checks.NONE, () -> x.labelOf(0));
            Checks.due("the line 1", isFirst ? Checks.NONE : 0, () -> x.labelOf(1));
        }
        // The old labels are away before the first new one is set.
        ContourLabels x = Checks.one(5, Checks.point(2, 5), "0000000000");
        Checks.line(x, 5, Checks.point(14, 5), "0");
        x.label(1, 0);
        x.label(0, 0);
        x.step(0, 2);
        Checks.due("both", 2, x::labelAll);
        Checks.due("the best place without the other label", 0, () -> x.labelOf(0));
        x.setLevel(1, 4);
        x.labelAll();
        Checks.due("the best place with the other label", 0, () -> x.labelOf(0));
        // A line that has no place then loses its label.
        ContourLabels y = Checks.one(5, 200, "0");
        y.label(0, 0);
        y.step(0, 2);
        Checks.due("none", 0, y::labelAll);
        Checks.due("it is gone", Checks.NONE, () -> y.labelOf(0));
    }

    // Lines too near to one another for the gap: who comes first decides; the same is done by labelBest(), one by one.
    private static void labelAllInOrder() {
        ContourLabels x = crowdedLines();
        ContourLabels byHand = crowdedLines();
        int[] order = {3, 1, 5, 6, 7, 0, 2, 4};
        int labels = 0;
        for (int line : order) {
            if (byHand.bestPlace(line) != Checks.NONE) {
                byHand.labelBest(line);
                labels++;
            }
        }
        int due = labels;
        Checks.due("labels", due, x::labelAll);
        Checks.due("not all have room", true, () -> due > 2 && due < 8);
        Checks.due("each at its best place then", Checks.state(byHand), () -> Checks.state(x));
        Checks.sentence(9, "Returns how many lines have labels then.");
        Checks.due("again", due, x::labelAll);
        Checks.due("none", 0, () -> new ContourLabels().labelAll());
        Checks.due("one of a point and a line", 1, () -> {
            ContourLabels y = Checks.one(5, 200, "");
            Checks.line(y, 5, 250, "0");
            return y.labelAll();
        });
        ContourLabels eight = new ContourLabels();
        for (int line = 0; line < 8; line++) {
            Checks.line(eight, 5, 48 * line, "00");
        }
        Checks.due("all 8", 8, eight::labelAll);
    }

    private static ContourLabels crowdedLines() {
        ContourLabels x = new ContourLabels();
        int[] levels = {30, 5, 30, 0, 99, 5, 9, 10};
        for (int line = 0; line < 8; line++) {
            Checks.line(x, levels[line], Checks.point(2, 2 * line), "0000000000");
        }
        x.setGap(6);
        return x;
    }

    private static void setGap() {
        Checks.sentence(10, "Changes the gap; labels stay, even if they are too near then.");
        ContourLabels x = Checks.rich();
        x.setGap(6);
        Checks.due("the gap", 6, x::gap);
        Checks.due("labels stay", 2, x::labels);
        Checks.due("there", 1, () -> x.labelOf(0));
        Checks.due("there", 0, () -> x.labelOf(2));
        x.label(2, 1);
        ContourLabels near = Checks.one(5, 200, "0");
        Checks.line(near, 5, 248, "0");
        near.label(0, 0);
        near.label(1, 0);
        near.setGap(3);
        Checks.due("too near", 1, near::tooNear);
        Checks.due("labels stay", 2, near::labels);
        Checks.sentence(10, "`gap`: 1 to 6");
        for (int gap = 1; gap <= 6; gap++) {
            int width = gap;
            Checks.allowed("to " + width, () -> near.setGap(width));
            Checks.due("the gap", width, near::gap);
        }
        Checks.sentence(10, "Returns the gap before.");
        Checks.due("at first", 2, () -> new ContourLabels().setGap(1));
        Checks.due("the widest", 6, () -> near.setGap(1));
        Checks.due("the least", 1, () -> near.setGap(1));
        Checks.sentence(10, "Throws `IllegalArgumentException` if gap is out of range");
        for (int gap : new int[] {0, 7, -1, Checks.LEAST, Checks.MOST}) {
            Checks.refused("empty, to " + gap, ContourLabels::new, Checks.ARGUMENT, y -> y.setGap(gap));
            Checks.refused("to " + gap, Checks::busy, Checks.ARGUMENT, y -> y.setGap(gap));
        }
    }

    private static void undoable(int promise, Function<ContourLabels, Object> call) {
        Checks.sentence(promise, "Undoable.");
        Checks.undoable(Checks::rich, call);
        Checks.undoable(Checks::busy, call);
    }

    private static void undoable() {
        undoable(2, x -> x.begin(99, 300));
        undoable(3, x -> x.step(0, 2));
        undoable(4, x -> x.wipe(0));
        Checks.undoable(Checks::rich, x -> x.wipe(1));
        Checks.undoable(Checks::busy, x -> x.wipe(2));
        undoable(5, x -> x.setLevel(0, 9));
        Checks.undoable(Checks::rich, x -> x.setLevel(1, 5));
        Checks.undoable(Checks::full, x -> x.setLevel(7, 5));
        undoable(6, x -> x.label(0, 3));
        Checks.undoable(Checks::rich, x -> x.label(0, 1));
        Checks.undoable(Checks::full, x -> x.label(7, 0));
        undoable(7, x -> x.unlabel(2));
        Checks.undoable(Checks::full, x -> x.unlabel(7));
        undoable(8, x -> x.labelBest(0));
        Checks.undoable(Checks::rich, x -> x.labelBest(2));
        undoable(9, ContourLabels::labelAll);
        undoable(10, x -> x.setGap(1));
        Checks.undoable(Checks::rich, x -> x.setGap(3));
        Checks.undoable(ContourLabels::new, ContourLabels::labelAll);
        Checks.undoable(ContourLabels::new, x -> x.begin(0, 0));
        Checks.undoable(() -> Checks.one(5, 200, "024"), x -> x.step(0, 6));
    }

    // ---- numbers of lines, points of lines and points of the map

    private static void noLine(int promise, String words, LineCall call) {
        Checks.sentence(promise, words);
        for (int line : FAR) {
            Checks.refused("empty, the line " + line, ContourLabels::new, Checks.INDEX, x -> call.of(x, line));
            Checks.refused("busy, the line " + line, Checks::busy, Checks.INDEX, x -> call.of(x, line));
            Checks.refused("full, the line " + line, Checks::full, Checks.INDEX, x -> call.of(x, line));
        }
        Checks.refused("empty, the line 0", ContourLabels::new, Checks.INDEX, x -> call.of(x, 0));
        Checks.refused("empty, the line 1", ContourLabels::new, Checks.INDEX, x -> call.of(x, 1));
        Checks.refused("3 lines, the line 3", Checks::busy, Checks.INDEX, x -> call.of(x, 3));
        for (int line = 0; line < 3; line++) {
            int here = line;
            Checks.due("3 lines, the line " + here, false,
                    () -> Checks.outcome(() -> call.of(Checks.rich(), here)).equals(Checks.INDEX));
        }
        for (int line = 0; line < 8; line++) {
            int here = line;
            Checks.due("8 lines, the line " + here, false,
                    () -> Checks.outcome(() -> call.of(Checks.full(), here)).equals(Checks.INDEX));
        }
        Checks.refused("7 lines, the line 7", CallBoundaries::sevenLeft, Checks.INDEX, x -> call.of(x, 7));
        Checks.refused("0 lines left, the line 0", CallBoundaries::noneLeft, Checks.INDEX, x -> call.of(x, 0));
    }

    private static ContourLabels sevenLeft() {
        ContourLabels x = Checks.full();
        x.wipe(3);
        return x;
    }

    private static ContourLabels noneLeft() {
        ContourLabels x = Checks.one(5, 200, "00");
        x.label(0, 0);
        x.wipe(0);
        return x;
    }

    private static boolean has(ContourLabels x, int line) {
        return line >= 0 && line < x.lines();
    }

    // Where a second number is wrong as well, the missing line comes first.
    private static void lineNumbers() {
        noLine(3, NO_LINE, (x, line) -> x.step(line, 2));
        noLine(3, NO_LINE, (x, line) -> has(x, line) ? 0 : x.step(line, 8));
        noLine(4, NO_LINE, (x, line) -> x.wipe(line));
        noLine(5, NO_LINE, (x, line) -> x.setLevel(line, 9));
        noLine(5, NO_LINE, (x, line) -> has(x, line) ? 0 : x.setLevel(line, 100));
        noLine(6, NO_LINE_OR_NUMBER, (x, line) -> x.label(line, 0));
        noLine(7, NO_LINE, (x, line) -> x.unlabel(line));
        noLine(8, NO_LINE, (x, line) -> x.labelBest(line));
        noLine(12, NO_LINE, (x, line) -> x.levelOf(line));
        noLine(13, NO_LINE, (x, line) -> x.stepsOf(line));
        noLine(14, NO_LINE_OR_NUMBER, (x, line) -> x.pointOf(line, 0));
        noLine(16, NO_LINE, (x, line) -> x.isClosed(line));
        noLine(17, NO_LINE, (x, line) -> x.whyNotStepped(line, 0));
        noLine(17, NO_LINE, (x, line) -> has(x, line) ? 0 : x.whyNotStepped(line, -1));
        noLine(18, NO_LINE_OR_NUMBER, (x, line) -> x.bendAt(line, 0));
        noLine(19, NO_LINE, (x, line) -> x.lengthByKinds(line));
        noLine(20, NO_LINE, (x, line) -> x.lengthBySteps(line));
        noLine(23, NO_LINE, (x, line) -> x.labelOf(line));
        noLine(24, NO_LINE, (x, line) -> x.isTurned(line));
        noLine(25, NO_LINE, (x, line) -> x.readFrom(line));
        noLine(26, NO_LINE, (x, line) -> x.sizeOf(line));
        noLine(27, NO_LINE_OR_NUMBER, (x, line) -> x.bendOf(line, 0));
        noLine(28, NO_LINE_OR_NUMBER, (x, line) -> x.whyNotLabelled(line, 0));
        noLine(29, NO_LINE, (x, line) -> x.placesOf(line));
        noLine(30, NO_LINE, (x, line) -> x.bestPlace(line));
        noLine(32, NO_LINE_OR_POINT, (x, line) -> x.isWithinByRays(line, 0));
        noLine(33, NO_LINE_OR_POINT, (x, line) -> x.isWithinBySpreading(line, 0));
        noLine(34, NO_LINE, (x, line) -> x.pointsWithin(line));
        noLine(35, NO_LINE, (x, line) -> x.lineRound(line));
        noLine(36, NO_LINE, (x, line) -> x.isSteady(line));
    }

    private static void noNumber(int promise, PairCall call) {
        Checks.sentence(promise, NO_LINE_OR_NUMBER);
        int[] steps = {6, 4, 3};
        for (int line = 0; line < 3; line++) {
            int here = line;
            for (int number : new int[] {-1, steps[line] + 1, 61, Checks.LEAST, Checks.MOST}) {
                Checks.refused("the point " + number + " of " + here, Checks::busy, Checks.INDEX,
                        x -> call.of(x, here, number));
            }
            for (int number = 0; number <= steps[line]; number++) {
                int there = number;
                Checks.due("the point " + there + " of " + here, false,
                        () -> Checks.outcome(() -> call.of(Checks.busy(), here, there)).equals(Checks.INDEX));
            }
        }
        Supplier<ContourLabels> longest = () -> Checks.one(5, 0, SNAKE);
        Checks.refused("the point 61 of 60 steps", longest, Checks.INDEX, x -> call.of(x, 0, 61));
        Checks.due("the point 60 of 60 steps", false,
                () -> Checks.outcome(() -> call.of(longest.get(), 0, 60)).equals(Checks.INDEX));
        Checks.refused("the point 1 of no steps", () -> Checks.one(5, 0, ""), Checks.INDEX, x -> call.of(x, 0, 1));
        Checks.refused("a step is undone", () -> {
            ContourLabels x = Checks.one(5, 0, "00");
            x.undo();
            return x;
        }, Checks.INDEX, x -> call.of(x, 0, 2));
        Checks.refused("no line and no point", Checks::busy, Checks.INDEX, x -> call.of(x, 3, 100));
    }

    private static void numbersOfPoints() {
        noNumber(6, ContourLabels::label);
        noNumber(14, ContourLabels::pointOf);
        noNumber(18, ContourLabels::bendAt);
        noNumber(27, ContourLabels::bendOf);
        noNumber(28, ContourLabels::whyNotLabelled);
    }

    private static void noPoint(int promise, String words, LineCall call) {
        Checks.sentence(promise, words);
        for (int point : new int[] {-1, 384, 385, Checks.LEAST, Checks.MOST}) {
            Checks.refused("the point " + point, Checks::busy, Checks.INDEX, x -> call.of(x, point));
            Checks.refused("full, the point " + point, Checks::full, Checks.INDEX, x -> call.of(x, point));
        }
        for (int point : new int[] {0, 383}) {
            Checks.due("the point " + point, false,
                    () -> Checks.outcome(() -> call.of(Checks.busy(), point)).equals(Checks.INDEX));
        }
    }

    private static void pointsOfTheMap() {
        noPoint(15, NO_POINT, (x, point) -> x.lineAt(point));
        noPoint(32, NO_LINE_OR_POINT, (x, point) -> x.isWithinByRays(1, point));
        noPoint(32, NO_LINE_OR_POINT, (x, point) -> x.isWithinByRays(0, point));
        noPoint(33, NO_LINE_OR_POINT, (x, point) -> x.isWithinBySpreading(1, point));
        noPoint(33, NO_LINE_OR_POINT, (x, point) -> x.isWithinBySpreading(0, point));
        Checks.refused("empty, lineAt", ContourLabels::new, Checks.INDEX, x -> x.lineAt(384));
        Checks.refused("neither, by rays", ContourLabels::new, Checks.INDEX, x -> x.isWithinByRays(0, 384));
        Checks.refused("neither, by spreading", ContourLabels::new, Checks.INDEX, x -> x.isWithinBySpreading(0, -1));
    }

    // ---- lines

    private static void lines() {
        Checks.sentence(11, "Returns how many lines there are.");
        ContourLabels x = new ContourLabels();
        Checks.due("none", 0, x::lines);
        for (int line = 0; line < 8; line++) {
            int count = line + 1;
            x.begin(line, line);
            Checks.due("lines", count, x::lines);
        }
        Checks.due("a ninth", Checks.STATE, () -> x.begin(5, 100));
        Checks.due("still 8", 8, x::lines);
        x.undo();
        Checks.due("undone", 7, x::lines);
        Checks.sentence(12, "Returns the level of a line.");
        for (int line = 0; line < 7; line++) {
            int here = line;
            Checks.due("the line " + here, here, () -> x.levelOf(here));
        }
        Checks.sentence(13, "Returns how many steps a line has.");
        ContourLabels y = Checks.one(5, 0, "");
        y.begin(5, 383);
        for (int steps = 0; steps <= 60; steps++) {
            int count = steps;
            Checks.due("steps", count, () -> y.stepsOf(0));
            Checks.due("the other line's", 0, () -> y.stepsOf(1));
            if (steps < 60) {
                y.step(0, SNAKE.charAt(steps) - '0');
            }
        }
    }

    private static void pointOf() {
        Checks.sentence(14, "Returns the point of the map that is a point of a line.");
        ContourLabels x = Checks.busy();
        int[] points = {146, 147, 171, 170, 146};
        for (int number = 0; number <= 4; number++) {
            int here = number;
            Checks.due("the point " + here, points[here], () -> x.pointOf(1, here));
        }
        Checks.sentence(14, NUMBER);
        Checks.due("the first one of the line 0", 50, () -> x.pointOf(0, 0));
        Checks.due("the last one of the line 0", 56, () -> x.pointOf(0, 6));
        Checks.due("one more", Checks.INDEX, () -> x.pointOf(0, 7));
        Checks.due("one less", Checks.INDEX, () -> x.pointOf(0, -1));
        ContourLabels longest = Checks.one(5, 0, SPIRAL);
        Checks.due("the last one of 60 steps", Checks.point(12, 8), () -> longest.pointOf(0, 60));
        Checks.due("one more", Checks.INDEX, () -> longest.pointOf(0, 61));
    }

    private static void lineAt() {
        Checks.sentence(15, "Returns the line that has a point of the map.");
        ContourLabels x = Checks.full();
        for (int point = 0; point < 384; point++) {
            int here = point;
            Checks.due("at " + here, here % 48 < 3 ? here / 48 : Checks.NONE, () -> x.lineAt(here));
        }
        Checks.sentence(15, "Returns the line; NONE if none has it.");
        ContourLabels y = Checks.one(5, 200, "0");
        Checks.due("the first point", 0, () -> y.lineAt(200));
        Checks.due("the last point", 0, () -> y.lineAt(201));
        Checks.due("ahead", Checks.NONE, () -> y.lineAt(199));
        Checks.due("behind", Checks.NONE, () -> y.lineAt(202));
        y.undo();
        Checks.due("undone", Checks.NONE, () -> y.lineAt(201));
        y.wipe(0);
        Checks.due("wiped out", Checks.NONE, () -> y.lineAt(200));
        ContourLabels longest = Checks.one(5, 0, SNAKE);
        Checks.due("the last point of 60 steps", 0, () -> longest.lineAt(60));
        Checks.due("no step 61", Checks.NONE, () -> longest.lineAt(61));
    }

    private static void closed() {
        Checks.sentence(16, "Tells whether a line is closed.");
        ContourLabels x = Checks.busy();
        Checks.due("open", false, () -> x.isClosed(0));
        Checks.due("closed", true, () -> x.isClosed(1));
        ContourLabels y = Checks.one(5, 200, "");
        for (char direction : "024".toCharArray()) {
            Checks.due("open", false, () -> y.isClosed(0));
            y.step(0, direction - '0');
        }
        Checks.due("3 steps", false, () -> y.isClosed(0));
        y.step(0, 6);
        Checks.due("4 steps", true, () -> y.isClosed(0));
        y.undo();
        Checks.due("undone", false, () -> y.isClosed(0));
        ContourLabels longest = Checks.one(5, 0, "0".repeat(23) + "2".repeat(7) + "4".repeat(23) + "6".repeat(7));
        Checks.due("60 steps", true, () -> longest.isClosed(0));
        Checks.due("60 steps, open", false, () -> Checks.one(5, 0, SNAKE).isClosed(0));
    }

    private static void whyNotStepped() {
        Checks.sentence(17, "Tells why a step cannot be added to a line.");
        Checks.due("1", 1, () -> Checks.one(5, 200, "0246").whyNotStepped(0, 0));
        Checks.due("2", 2, () -> Checks.one(5, 0, SNAKE).whyNotStepped(0, 0));
        Checks.due("3", 3, () -> Checks.one(5, 0, "").whyNotStepped(0, 4));
        Checks.due("4", 4, () -> Checks.one(5, 200, "0").whyNotStepped(0, 4));
        Checks.due("5", 5, () -> acrossTheLineOne().whyNotStepped(0, 3));
        Checks.due("0", 0, () -> Checks.one(5, 200, "0").whyNotStepped(0, 0));
        Checks.sentence(17, "`direction`: 0 to 7");
        for (int direction = 0; direction < 8; direction++) {
            int way = direction;
            Checks.due("to " + way, 0, () -> Checks.one(5, 200, "").whyNotStepped(0, way));
        }
        Checks.sentence(17, NO_DIRECTION);
        for (int direction : new int[] {-1, 8, 9, Checks.LEAST, Checks.MOST}) {
            Checks.refused("to " + direction, Checks::busy, Checks.ARGUMENT, x -> x.whyNotStepped(0, direction));
            Checks.refused("closed, to " + direction, Checks::busy, Checks.ARGUMENT,
                    x -> x.whyNotStepped(1, direction));
        }
    }

    // Where several reasons apply, the one that is told first.
    private static void whyNotSteppedFirst() {
        Checks.sentence(17, "Returns 1 if the line is closed; otherwise 2 if it has 60 steps; otherwise 3 if the step "
                + "leaves the map; otherwise 4 if a line has the point to which it goes, unless it closes this line; "
                + "otherwise 5 if it crosses a step; otherwise 0.");
        ContourLabels ring = Checks.one(5, 0, "0".repeat(23) + "2".repeat(7) + "4".repeat(23) + "6".repeat(7));
        Checks.due("closed with 60 steps", 1, () -> ring.whyNotStepped(0, 1));
        Checks.due("closed, off the map", 1, () -> ring.whyNotStepped(0, 5));
        Checks.due("closed, taken", 1, () -> ring.whyNotStepped(0, 0));
        ContourLabels square = Checks.one(5, Checks.point(5, 5), "0246");
        Checks.line(square, 5, Checks.point(5, 4), "3");
        Checks.due("closed, across", 1, () -> square.whyNotStepped(0, 5));
        ContourLabels edge = Checks.one(5, 11, "0".repeat(12) + "2" + "4".repeat(23) + "2" + "0".repeat(23));
        Checks.due("60 steps, off the map", 2, () -> edge.whyNotStepped(0, 0));
        Checks.due("60 steps, taken", 2, () -> edge.whyNotStepped(0, 4));
        edge.undo();
        Checks.due("59 steps", 0, () -> edge.whyNotStepped(0, 0));
        ContourLabels snake = Checks.one(5, 0, SNAKE);
        Checks.line(snake, 5, Checks.point(13, 2), "3");
        Checks.due("60 steps, across", 2, () -> snake.whyNotStepped(0, 1));
        ContourLabels shorter = Checks.one(5, 0, SNAKE);
        shorter.undo();
        Checks.line(shorter, 5, Checks.point(12, 2), "3");
        Checks.due("59 steps, across", 5, () -> shorter.whyNotStepped(0, 1));
        Checks.due("59 steps, taken", 4, () -> shorter.whyNotStepped(0, 0));
        ContourLabels both = acrossTheLineOne();
        both.begin(5, 224);
        Checks.due("taken and across", 4, () -> both.whyNotStepped(0, 3));
        both.undo();
        Checks.due("across alone", 5, () -> both.whyNotStepped(0, 3));
        ContourLabels three = Checks.one(5, 200, "02");
        Checks.due("3 steps to the first point", 4, () -> three.whyNotStepped(0, 5));
        three.step(0, 4);
        Checks.due("4 steps to the first point", 0, () -> three.whyNotStepped(0, 6));
        Checks.due("4 steps to the second point", 4, () -> three.whyNotStepped(0, 7));
    }

    private static void bendAt() {
        Checks.sentence(18, "Returns the bend of a line at one of its points.");
        ContourLabels x = Checks.one(5, Checks.point(3, 2), "013201766");
        int[] due = {0, 1, 2, 1, 2, 1, 2, 1, 0, 0};
        for (int number = 0; number < due.length; number++) {
            int here = number;
            Checks.due("at " + here, due[here], () -> x.bendAt(0, here));
        }
        Checks.sentence(18, NUMBER);
        Checks.due("one more", Checks.INDEX, () -> x.bendAt(0, 10));
        Checks.due("one less", Checks.INDEX, () -> x.bendAt(0, -1));
        Checks.due("the last one of 60 steps", 0, () -> Checks.one(5, 0, SPIRAL).bendAt(0, 60));
        Checks.due("the last but one of 60 steps", 2, () -> Checks.one(5, 0, SPIRAL).bendAt(0, 59));
        Checks.due("one more than 60 steps", Checks.INDEX, () -> Checks.one(5, 0, SPIRAL).bendAt(0, 61));
        Checks.sentence(18, "Returns 0 to 4; 0 where there is none.");
        Checks.due("a point", 0, () -> Checks.one(5, 200, "").bendAt(0, 0));
        Checks.due("the first point", 0, () -> Checks.one(5, 200, "02").bendAt(0, 0));
        Checks.due("straight", 0, () -> Checks.one(5, 200, "00").bendAt(0, 1));
        Checks.due("sharp", 3, () -> Checks.one(5, 200, "03").bendAt(0, 1));
        Checks.due("sharp, to the other side", 3, () -> Checks.one(5, 200, "05").bendAt(0, 1));
        Checks.due("the last point", 0, () -> Checks.one(5, 200, "02").bendAt(0, 2));
    }

    private static void lengths() {
        String[] ways = {"", "0", "1", "00", "11", "01", "0246", "1357", SNAKE, SPIRAL, "1".repeat(15), "0123456"};
        for (String way : ways) {
            ContourLabels x = Checks.one(5, way.startsWith("1357") || way.length() < 8 ? 200 : 0, way);
            int slanting = 0;
            double length = 0.0;
            for (char direction : way.toCharArray()) {
                boolean slants = (direction - '0') % 2 == 1;
                slanting += slants ? 1 : 0;
                length += slants ? Checks.SLANT : 1.0;
            }
            double kinds = (double) (way.length() - slanting) + (double) slanting * Checks.SLANT;
            double steps = length;
            Checks.sentence(19, "Returns the length of a line, told by how many steps are slanting.");
            Checks.due("of " + way, kinds, () -> x.lengthByKinds(0));
            Checks.sentence(20, "Returns the length of a line, told step by step: from 0.0 on, for each step 1.0 more, or "
                    + "1.4142135623730951 more if it is slanting.");
            Checks.due("of " + way, steps, () -> x.lengthBySteps(0));
        }
        Checks.sentence(19, "Returns the steps that are not slanting as a double, and the others as a double times "
                + "1.4142135623730951, together.");
        Checks.due("no steps", 0.0, () -> Checks.one(5, 200, "").lengthByKinds(0));
        Checks.due("60 straight ones", 60.0, () -> Checks.one(5, 0, SNAKE).lengthByKinds(0));
        Checks.due("60 slanting ones", 84.8528137423857, () -> Checks.one(5, 0, SPIRAL).lengthByKinds(0));
        Checks.due("told step by step they differ", false,
                () -> Checks.one(5, 0, SPIRAL).lengthBySteps(0) == Checks.one(5, 0, SPIRAL).lengthByKinds(0));
    }

    // ---- labels

    private static void gapAndLabels() {
        Checks.sentence(21, "Returns the gap.");
        ContourLabels x = new ContourLabels();
        Checks.due("at first", 2, x::gap);
        for (int gap = 6; gap >= 1; gap--) {
            int width = gap;
            x.setGap(width);
            Checks.due("the gap", width, x::gap);
        }
        Checks.sentence(22, "Returns how many lines have labels.");
        ContourLabels y = new ContourLabels();
        for (int line = 0; line < 8; line++) {
            int count = line;
            Checks.due("labels", count, y::labels);
            Checks.line(y, 5, 48 * line, "0");
            Checks.due("the same", count, y::labels);
            y.label(line, 0);
        }
        Checks.due("all 8", 8, y::labels);
        y.unlabel(7);
        Checks.due("7", 7, y::labels);
        y.wipe(0);
        Checks.due("6", 6, y::labels);
    }

    private static void labelOf() {
        Checks.sentence(23, "Returns the place of the label of a line.");
        ContourLabels x = Checks.one(5, 0, SNAKE);
        for (int place = 0; place <= 59; place++) {
            int here = place;
            boolean isSet = x.whyNotLabelled(0, here) == 0;
            if (isSet) {
                x.label(0, here);
                Checks.due("at " + here, here, () -> x.labelOf(0));
            }
        }
        Checks.due("the last place", 59, () -> x.labelOf(0));
        Checks.sentence(23, "Returns the number of its first point; NONE if the line has no label.");
        ContourLabels y = Checks.one(5, 200, "0");
        Checks.due("none", Checks.NONE, () -> y.labelOf(0));
        y.label(0, 0);
        Checks.due("the place 0", 0, () -> y.labelOf(0));
        y.unlabel(0);
        Checks.due("none any more", Checks.NONE, () -> y.labelOf(0));
    }

    private static void readFrom() {
        Checks.sentence(24, "Tells whether the label of a line is turned; false if it has none.");
        Checks.due("none, to the left", false, () -> Checks.one(5, 200, "44").isTurned(0));
        ContourLabels left = Checks.one(5, 200, "444");
        left.label(0, 0);
        Checks.due("to the left at 0", true, () -> left.isTurned(0));
        left.label(0, 2);
        Checks.due("to the left at 2", true, () -> left.isTurned(0));
        ContourLabels right = Checks.one(5, 200, "000");
        right.label(0, 0);
        Checks.due("to the right at 0", false, () -> right.isTurned(0));
        // A line can go to the left and its label to the right.
        ContourLabels both = Checks.one(5, 200, "000" + "2" + "44444");
        both.label(0, 0);
        Checks.due("the label goes to the right", false, () -> both.isTurned(0));
        both.label(0, 7);
        Checks.due("the label goes to the left", true, () -> both.isTurned(0));
        Checks.sentence(25, "Returns the point of the map at which the label of a line begins as it is read.");
        Checks.due("to the left", both.pointOf(0, 8), () -> both.readFrom(0));
        Checks.due("the last point of two", left.pointOf(0, 3), () -> left.readFrom(0));
        Checks.due("the first point of two", 200, () -> right.readFrom(0));
        ContourLabels three = Checks.one(10, 200, "444");
        three.label(0, 1);
        Checks.due("the last point of three", 197, () -> three.readFrom(0));
        three.label(0, 0);
        Checks.due("the last point of three at 0", 198, () -> three.readFrom(0));
        Checks.sentence(25, "Returns the point; NONE if the line has no label.");
        Checks.due("none", Checks.NONE, () -> Checks.one(5, 200, "44").readFrom(0));
        Checks.due("none of a point", Checks.NONE, () -> Checks.one(5, 0, "").readFrom(0));
        ContourLabels corner = Checks.one(5, 0, "0");
        corner.label(0, 0);
        Checks.due("the first point of the map", 0, () -> corner.readFrom(0));
        ContourLabels last = Checks.one(5, 383, "4");
        last.label(0, 0);
        Checks.due("the last point but one of the map", 382, () -> last.readFrom(0));
    }

    private static void sizeAndBend() {
        Checks.sentence(26, "Returns the size of the label of a line.");
        int[][] sizes = {{0, 2}, {8, 2}, {9, 2}, {10, 3}, {11, 3}, {99, 3}};
        for (int[] row : sizes) {
            Checks.due("at the level " + row[0], row[1], () -> Checks.one(row[0], 200, "").sizeOf(0));
        }
        Checks.sentence(27, "Returns the bend of a place of a line.");
        ContourLabels x = Checks.one(5, Checks.point(5, 5), "00102");
        int[] two = {1, 2, 4, 4, 3};
        for (int place = 0; place < two.length; place++) {
            int here = place;
            Checks.due("at " + here, two[here], () -> x.bendOf(0, here));
        }
        Checks.sentence(27, PLACE);
        Checks.due("one more", Checks.NONE, () -> x.bendOf(0, 5));
        Checks.due("behind the line", Checks.INDEX, () -> x.bendOf(0, 6));
        Checks.due("ahead of the line", Checks.INDEX, () -> x.bendOf(0, -1));
        Checks.sentence(27, "Returns the bend; NONE if there is no such place.");
        x.setLevel(0, 10);
        int[] three = {2, 4, 4, 4, Checks.NONE, Checks.NONE};
        for (int place = 0; place < three.length; place++) {
            int here = place;
            Checks.due("three points at " + here, three[here], () -> x.bendOf(0, here));
        }
        Checks.due("no place on a point", Checks.NONE, () -> Checks.one(5, 200, "").bendOf(0, 0));
        Checks.due("no place at the end of a closed line", Checks.NONE,
                () -> Checks.one(5, 200, "0246").bendOf(0, 3));
        Checks.due("one at the end of an open line", 2, () -> Checks.one(5, 200, "0244").bendOf(0, 3));
    }

    private static void whyNotLabelled() {
        Checks.sentence(28, "Tells why the label of a line cannot be set at a place.");
        ContourLabels x = Checks.one(5, Checks.point(2, 2), "0000002222");
        int[] due = {0, 0, 0, 0, 2, 2, 2, 2, 3, 3, 1};
        for (int place = 0; place < due.length; place++) {
            int here = place;
            Checks.due("at " + here, due[here], () -> x.whyNotLabelled(0, here));
        }
        Checks.due("too near", 4, () -> nearToALabel().whyNotLabelled(1, 0));
        Checks.sentence(28, PLACE);
        Checks.due("one more", Checks.INDEX, () -> x.whyNotLabelled(0, 11));
        Checks.due("one less", Checks.INDEX, () -> x.whyNotLabelled(0, -1));
        Checks.due("the last place of 60 steps", 0, () -> Checks.one(5, 0, SNAKE).whyNotLabelled(0, 59));
        Checks.due("no place behind it", 1, () -> Checks.one(5, 0, SNAKE).whyNotLabelled(0, 60));
    }

    // Where several reasons apply, the one that is told first; and each one's edge.
    private static void whyNotLabelledFirst() {
        Checks.sentence(28, "Returns 1 if there is no such place; otherwise 2 if its bend is above 1; otherwise 3 if a "
                + "label would stand there; otherwise 4 if it would be too near to a label of another line; otherwise 0.");
        Checks.due("a bend of 1", 0, () -> Checks.one(5, 200, "01").whyNotLabelled(0, 0));
        Checks.due("a bend of 2", 2, () -> Checks.one(5, 200, "02").whyNotLabelled(0, 0));
        Checks.due("two bends of 1", 2, () -> Checks.one(10, 200, "010").whyNotLabelled(0, 0));
        Checks.due("bent and standing", 2, () -> Checks.one(5, 200, "022").whyNotLabelled(0, 1));
        Checks.due("a bend of 1, standing", 3, () -> Checks.one(5, 200, "122").whyNotLabelled(0, 1));
        int[][] reasons = {{1, 2}, {2, 0}, {3, 1}, {4, 0}};
        String[] ways = {"00", "02", "222", "00"};
        for (int row = 0; row < ways.length; row++) {
            int reason = reasons[row][0];
            int place = reasons[row][1];
            ContourLabels x = Checks.one(5, 199, "00000");
            x.label(0, 1);
            Checks.line(x, 5, 224, ways[row]);
            Checks.due("near to a label", reason, () -> x.whyNotLabelled(1, place));
        }
        ContourLabels own = Checks.one(5, 200, "000");
        own.label(0, 1);
        own.setGap(6);
        for (int place = 0; place <= 2; place++) {
            int here = place;
            Checks.due("near to its own label", 0, () -> own.whyNotLabelled(0, here));
        }
        ContourLabels two = Checks.one(5, 200, "00");
        Checks.line(two, 5, 296, "00");
        Checks.due("lines that are near have no labels", 0, () -> two.whyNotLabelled(1, 0));
    }

    private static void places() {
        Checks.sentence(29, "Returns how many places of a line have whyNotLabelled() 0.");
        for (int steps = 0; steps <= 10; steps++) {
            String way = "0".repeat(steps);
            Checks.due("size 2, steps " + steps, steps, () -> Checks.one(9, 200, way).placesOf(0));
            Checks.due("size 3, steps " + steps, Math.max(0, steps - 1), () -> Checks.one(10, 200, way).placesOf(0));
        }
        // Each of 8 bends is too much for four places, the last one for three.
        Checks.due("of 60 slanting steps", 60 - 7 * 4 - 3, () -> Checks.one(9, 0, SPIRAL).placesOf(0));
        ContourLabels x = nearToALabel();
        int[] places = {6, 3, 2, 1, 0, 0};
        for (int gap = 1; gap <= 6; gap++) {
            int here = gap;
            x.setGap(here);
            Checks.due("the gap " + here, places[here - 1], () -> x.placesOf(1));
        }
        Checks.sentence(30, "Returns the best place of a line.");
        Checks.due("far away", 0, () -> Checks.one(9, 200, "0000").bestPlace(0));
        x.setGap(1);
        Checks.due("the furthest one", 5, () -> x.bestPlace(1));
        x.setGap(4);
        Checks.due("the only one", 5, () -> x.bestPlace(1));
        Checks.sentence(30, "Returns the number of its first point; NONE if there is none.");
        x.setGap(5);
        Checks.due("none that is far enough", Checks.NONE, () -> x.bestPlace(1));
        Checks.due("none of a point", Checks.NONE, () -> Checks.one(9, 200, "").bestPlace(0));
        Checks.due("none of two points", Checks.NONE, () -> Checks.one(10, 200, "0").bestPlace(0));
        Checks.due("the first one of two points", 0, () -> Checks.one(9, 200, "0").bestPlace(0));
        Checks.due("none of a small square", Checks.NONE, () -> Checks.one(9, 200, "0246").bestPlace(0));
        // Both ends of a long line are straight; a label near to its beginning makes the last place the best one.
        ContourLabels longest = Checks.one(5, Checks.point(0, 2), SNAKE);
        Checks.due("the first one of 60 steps", 0, () -> longest.bestPlace(0));
        Checks.line(longest, 5, Checks.point(23, 1), "4");
        longest.label(1, 0);
        Checks.due("the first one is furthest still", 0, () -> longest.bestPlace(0));
        longest.wipe(1);
        Checks.line(longest, 5, 0, "0");
        longest.label(1, 0);
        Checks.due("the first one of two at the other side", 20, () -> longest.bestPlace(0));
    }

    // Eight labels in four rows and two columns.
    private static void tooNear() {
        Checks.sentence(31, "Returns how many pairs of labels are too near.");
        ContourLabels x = new ContourLabels();
        x.setGap(1);
        Checks.due("no lines", 0, x::tooNear);
        for (int line = 0; line < 8; line++) {
            Checks.line(x, 5, Checks.point(5 + 3 * (line % 2), 5 + 2 * (line / 2)), "0");
            x.label(line, 0);
        }
        for (int gap = 1; gap <= 6; gap++) {
            int pairs = 0;
            for (int one = 0; one < 8; one++) {
                for (int other = one + 1; other < 8; other++) {
                    int across = one % 2 == other % 2 ? 0 : 2;
                    int down = 2 * (other / 2 - one / 2);
                    pairs += Math.max(across, down) < gap ? 1 : 0;
                }
            }
            int due = pairs;
            x.setGap(gap);
            Checks.due("the gap " + gap, due, x::tooNear);
        }
        x.setGap(6);
        Checks.due("all but those of the first and the last row", 24, x::tooNear);
        x.unlabel(7);
        Checks.due("without the label of the last line", 19, x::tooNear);
        x.unlabel(0);
        Checks.due("without the label of the first line, too", 14, x::tooNear);
    }

    // ---- within

    private static void within() {
        Checks.sentence(32, "Tells whether a point of the map is within a line, told by how many steps of the line are to "
                + "its right.");
        ContourLabels x = Checks.one(5, Checks.point(5, 5), "1357");
        Checks.due("within", true, () -> x.isWithinByRays(0, Checks.point(5, 6)));
        for (int[] beside : new int[][] {{5, 5}, {4, 6}, {6, 6}, {5, 7}, {4, 5}, {6, 5}, {4, 7}, {6, 7}, {3, 6}, {7, 6}}) {
            Checks.due("not within", false, () -> x.isWithinByRays(0, Checks.point(beside[0], beside[1])));
        }
        Checks.sentence(32, "Returns whether it is; false if the line is not closed.");
        ContourLabels open = Checks.one(5, Checks.point(5, 5), "135");
        Checks.due("open", false, () -> open.isWithinByRays(0, Checks.point(5, 6)));
        Checks.sentence(33, "Returns whether it is; false if the line is not closed.");
        Checks.due("open", false, () -> open.isWithinBySpreading(0, Checks.point(5, 6)));
        Checks.due("a point", false, () -> Checks.one(5, 200, "").isWithinBySpreading(0, 200));
        Checks.sentence(33, "Tells the same, told by spreading from the edge of the map.");
        Checks.due("within", true, () -> x.isWithinBySpreading(0, Checks.point(5, 6)));
        for (int[] beside : new int[][] {{5, 5}, {4, 6}, {6, 6}, {5, 7}, {4, 5}, {6, 5}, {4, 7}, {6, 7}, {3, 6}, {7, 6}}) {
            Checks.due("not within", false, () -> x.isWithinBySpreading(0, Checks.point(beside[0], beside[1])));
        }
        // One line's answer leaves nothing behind for the next one's.
        Checks.line(x, 5, Checks.point(15, 5), "1357");
        Checks.due("within the other", true, () -> x.isWithinBySpreading(1, Checks.point(15, 6)));
        Checks.due("not within the other", false, () -> x.isWithinBySpreading(1, Checks.point(5, 6)));
        Checks.due("within the first one", true, () -> x.isWithinBySpreading(0, Checks.point(5, 6)));
        Checks.due("on the other", false, () -> x.isWithinBySpreading(0, Checks.point(16, 6)));
        Checks.sentence(34, "Returns how many points of the map are within a line.");
        Checks.due("one", 1, () -> x.pointsWithin(0));
        Checks.due("none", 0, () -> Checks.one(5, 200, "0246").pointsWithin(0));
        for (int row = 1; row <= 15; row++) {
            int side = row;
            int width = Math.min(23, 30 - side);
            String way = "0".repeat(width) + "2".repeat(side) + "4".repeat(width) + "6".repeat(side);
            Checks.due("of " + way, (width - 1) * (side - 1), () -> Checks.one(5, 0, way).pointsWithin(0));
        }
        Checks.due("not only on one line's side", 1, () -> x.pointsWithin(1));
        Checks.sentence(34, "Returns the points; 0 if the line is not closed.");
        Checks.due("open", 0, () -> open.pointsWithin(0));
        Checks.due("a point", 0, () -> Checks.one(5, 200, "").pointsWithin(0));
    }

    private static void lineRound() {
        Checks.sentence(35, "Returns the line round a line.");
        ContourLabels x = Checks.one(20, Checks.point(5, 5), "00224466");
        Checks.line(x, 15, Checks.point(6, 6), "");
        Checks.due("round the point", 0, () -> x.lineRound(1));
        Checks.sentence(35, "Returns the line; NONE if there is none.");
        Checks.due("none", Checks.NONE, () -> x.lineRound(0));
        x.wipe(0);
        Checks.due("none any more", Checks.NONE, () -> x.lineRound(0));
        x.undo();
        Checks.sentence(36, "Tells whether a line is steady.");
        Checks.due("5 below", true, () -> x.isSteady(1));
        Checks.due("none round it", true, () -> x.isSteady(0));
        for (int level : new int[] {14, 16, 20, 24, 26, 0, 99}) {
            x.setLevel(1, level);
            Checks.due("the level " + level, false, () -> x.isSteady(1));
        }
        x.setLevel(1, 25);
        Checks.due("5 above", true, () -> x.isSteady(1));
    }

    private static void lineByLevel() {
        Checks.sentence(37, "Returns the line at a place in the order of levels from the lowest on, those with the same one "
                + "by their numbers.");
        int[][] levels = {{30, 10, 30, 99, 0, 10, 10, 50}, {7, 6, 5, 4, 3, 2, 1, 0}, {0, 1, 2, 3, 4, 5, 6, 7},
            {5, 5, 5, 5, 5, 5, 5, 5}};
        int[][] orders = {{4, 1, 5, 6, 0, 2, 7, 3}, {7, 6, 5, 4, 3, 2, 1, 0}, {0, 1, 2, 3, 4, 5, 6, 7},
            {0, 1, 2, 3, 4, 5, 6, 7}};
        for (int row = 0; row < levels.length; row++) {
            ContourLabels x = new ContourLabels();
            for (int line = 0; line < 8; line++) {
                x.begin(levels[row][line], 10 * line);
            }
            for (int place = 0; place < 8; place++) {
                int here = place;
                Checks.due("the place " + here, orders[row][here], () -> x.lineByLevel(here));
            }
        }
        Checks.sentence(37, "`place`: from 0");
        ContourLabels x = Checks.busy();
        int[] order = {1, 2, 0};
        for (int place = 0; place < 3; place++) {
            int here = place;
            Checks.due("the place " + here, order[here], () -> x.lineByLevel(here));
        }
        Checks.sentence(37, "Throws `IndexOutOfBoundsException` if there is no such place");
        Checks.refused("empty, the place 0", ContourLabels::new, Checks.INDEX, y -> y.lineByLevel(0));
        Checks.refused("3 lines, the place 3", Checks::busy, Checks.INDEX, y -> y.lineByLevel(3));
        for (int place : FAR) {
            Checks.refused("the place " + place, Checks::busy, Checks.INDEX, y -> y.lineByLevel(place));
            Checks.refused("8 lines, the place " + place, Checks::full, Checks.INDEX, y -> y.lineByLevel(place));
        }
    }
}
