import java.lang.reflect.Method;
import java.lang.reflect.Modifier;
import java.util.Arrays;

/** The boundaries that the document's terms name, sentence by sentence: the map, lines, bends, labels, within. */
final class TermsBoundaries {
    static final int[] ACROSS = {1, 1, 0, -1, -1, -1, 0, 1};
    static final int[] DOWN = {0, 1, 1, 1, 0, -1, -1, -1};
    static final String SQUARE = "0246";
    static final String DIAMOND = "1357";

    private TermsBoundaries() {
    }

    static void all() {
        numbers();
        map();
        directions();
        manyLines();
        longLines();
        levels();
        pointsOnce();
        closing();
        crossings();
        cornersOfCrossings();
        bends();
        bendsOfClosedLines();
        sizes();
        placesAtTheEnds();
        bendsOfPlaces();
        bendsBesidePlaces();
        acrossAndDown();
        turned();
        standing();
        oneLabel();
        gaps();
        tooNear();
        best();
        bestByDistance();
        within();
        withinBySlits();
        withinBySlants();
        withinAtTheEdge();
        linesWithin();
        lineRound();
        steady();
        constants();
    }

    private static void terms(String words) {
        Checks.sentence("Terms", words);
    }

    private static int beside(int point, int direction) {
        int column = point % 24 + ACROSS[direction];
        int row = point / 24 + DOWN[direction];
        return column < 0 || column > 23 || row < 0 || row > 15 ? Checks.NONE : Checks.point(column, row);
    }

    /** The directions of a line, turned by eighths of a turn. */
    static String turn(String directions, int eighths) {
        StringBuilder turned = new StringBuilder();
        for (char direction : directions.toCharArray()) {
            turned.append((direction - '0' + eighths) % 8);
        }
        return turned.toString();
    }

    /** The directions of a line that goes the same way back. */
    static String back(String directions) {
        return turn(new StringBuilder(directions).reverse().toString(), 4);
    }

    private static void numbers() {
        terms("All numbers are integers, except for the results of lengthByKinds() and lengthBySteps().");
        for (Method method : ContourLabels.class.getDeclaredMethods()) {
            if (Modifier.isPublic(method.getModifiers())) {
                boolean isLength = method.getName().startsWith("length");
                Checks.due(method.getName(), isLength, () -> method.getReturnType() == double.class);
            }
        }
    }

    // Every step from every point: the steps at the edges leave the map, and come out nowhere else.
    private static void map() {
        terms("The map has points in 24 columns, 0 to 23 from the left, and 16 rows, 0 to 15 from above; the point in "
                + "the column c and the row r has the number 24 * r + c.");
        for (int point = 0; point < 384; point++) {
            int from = point;
            ContourLabels x = new ContourLabels();
            Checks.due("begin at " + from, 0, () -> x.begin(5, from));
            Checks.due("lineAt " + from, 0, () -> x.lineAt(from));
            for (int direction = 0; direction < 8; direction++) {
                int way = direction;
                int to = beside(from, way);
                Checks.due("whyNotStepped " + from + " to " + way, to == Checks.NONE ? 3 : 0,
                        () -> x.whyNotStepped(0, way));
                ContourLabels stepped = Checks.one(5, from, "");
                if (to == Checks.NONE) {
                    Checks.due("the step " + way + " from " + from, Checks.STATE, () -> stepped.step(0, way));
                } else {
                    Checks.due("the step " + way + " from " + from, false, () -> stepped.step(0, way));
                    Checks.due("the point behind it", to, () -> stepped.pointOf(0, 1));
                    Checks.due("the line there", 0, () -> stepped.lineAt(to));
                }
            }
        }
        for (int point : new int[] {-1, 384, -24, 408, Checks.LEAST, Checks.MOST}) {
            Checks.refused("begin at " + point, Checks::rich, Checks.INDEX, x -> x.begin(5, point));
            Checks.refused("lineAt " + point, Checks::rich, Checks.INDEX, x -> x.lineAt(point));
            Checks.refused("rays to " + point, Checks::rich, Checks.INDEX, x -> x.isWithinByRays(1, point));
            Checks.refused("spreading to " + point, Checks::rich, Checks.INDEX, x -> x.isWithinBySpreading(1, point));
        }
    }

    private static void directions() {
        terms("A step goes from a point to one beside it; the directions are 0 right, 1 right and down, 2 down, 3 left "
                + "and down, 4 left, 5 left and up, 6 up, 7 right and up.");
        int[] beside = {1, 25, 24, 23, -1, -25, -24, -23};
        for (int direction = 0; direction < 8; direction++) {
            ContourLabels x = Checks.one(5, 200, "" + direction);
            int there = 200 + beside[direction];
            Checks.due("the step " + direction, there, () -> x.pointOf(0, 1));
            Checks.due("the line there", 0, () -> x.lineAt(there));
        }
        terms("Those with odd numbers are slanting.");
        for (int direction = 0; direction < 8; direction++) {
            ContourLabels x = Checks.one(5, 200, "" + direction);
            double length = direction % 2 == 1 ? Checks.SLANT : 1.0;
            Checks.due("the kind of " + direction, length, () -> x.lengthByKinds(0));
            Checks.due("the step " + direction, length, () -> x.lengthBySteps(0));
        }
    }

    private static void manyLines() {
        terms("There are at most 8 lines, numbered from 0 in the order in which they begin; when one is wiped out, "
                + "greater numbers become 1 less.");
        ContourLabels x = new ContourLabels();
        for (int line = 0; line < 8; line++) {
            int number = line;
            Checks.due("the line " + number, number, () -> x.begin(number, 48 * number));
        }
        Checks.due("a ninth", Checks.STATE, () -> x.begin(5, 383));
        Checks.due("lines", 8, x::lines);
        for (int gone = 0; gone < 8; gone++) {
            wipeOneOfEight(gone);
        }
    }

    private static void wipeOneOfEight(int gone) {
        ContourLabels x = Checks.full();
        x.unlabel(0);
        x.unlabel(7);
        Checks.due("seven left", 7, () -> x.wipe(gone));
        for (int line = 0; line < 7; line++) {
            int here = line;
            int was = line < gone ? line : line + 1;
            Checks.due("the level of " + here, 13 * was, () -> x.levelOf(here));
            Checks.due("the point of " + here, 48 * was + 2, () -> x.pointOf(here, 2));
            Checks.due("the line at " + 48 * was, here, () -> x.lineAt(48 * was));
        }
        Checks.due("no line 7", Checks.INDEX, () -> x.levelOf(7));
        Checks.due("an eighth again", 7, () -> x.begin(99, 48 * gone));
        Checks.due("no ninth", Checks.STATE, () -> x.begin(99, 383));
    }

    private static void longLines() {
        terms("A line has a level from 0 to 99, a point at which it begins, and up to 60 steps, one behind the other; "
                + "its points are numbered from 0, the one at which it begins.");
        ContourLabels x = Checks.one(0, 0, "");
        String way = "0".repeat(23) + "2" + "4".repeat(23) + "2" + "0".repeat(12);
        int there = 0;
        for (int steps = 0; steps < 60; steps++) {
            int direction = way.charAt(steps) - '0';
            int number = steps + 1;
            there = beside(there, direction);
            int to = there;
            Checks.due("why not the step " + number, 0, () -> x.whyNotStepped(0, direction));
            Checks.due("the step " + number, false, () -> x.step(0, direction));
            Checks.due("steps", number, () -> x.stepsOf(0));
            Checks.due("the point " + number, to, () -> x.pointOf(0, number));
            Checks.due("the point behind it", Checks.INDEX, () -> x.pointOf(0, number + 1));
        }
        Checks.due("why not a step 61", 2, () -> x.whyNotStepped(0, 0));
        Checks.due("a step 61", Checks.STATE, () -> x.step(0, 0));
        Checks.due("60 steps", 60, () -> x.stepsOf(0));
        Checks.due("the first point", 0, () -> x.pointOf(0, 0));
        Checks.due("no point -1", Checks.INDEX, () -> x.pointOf(0, -1));
    }

    // A line of 60 steps does not touch its neighbour's row of points.
    private static void levels() {
        ContourLabels x = new ContourLabels();
        String way = "0".repeat(23) + "2" + "4".repeat(23) + "2" + "0".repeat(12);
        for (int line = 0; line < 5; line++) {
            int level = new int[] {0, 99, 9, 10, 50}[line];
            Checks.line(x, level, 72 * line, way);
            int here = line;
            Checks.due("the level of " + here, level, () -> x.levelOf(here));
        }
        for (int line = 0; line < 5; line++) {
            int here = line;
            Checks.due("the first point of " + here, 72 * here, () -> x.pointOf(here, 0));
            Checks.due("the last point of " + here, 72 * here + 60, () -> x.pointOf(here, 60));
            Checks.due("the steps of " + here, 60, () -> x.stepsOf(here));
        }
        x.wipe(1);
        Checks.due("the last point of what was 2", 72 * 2 + 60, () -> x.pointOf(1, 60));
        Checks.due("the last point of what was 4", 72 * 4 + 60, () -> x.pointOf(3, 60));
        for (int level : new int[] {-1, 100, Checks.LEAST, Checks.MOST}) {
            Checks.refused("begin with " + level, Checks::rich, Checks.ARGUMENT, y -> y.begin(level, 0));
            Checks.refused("setLevel to " + level, Checks::rich, Checks.ARGUMENT, y -> y.setLevel(0, level));
        }
    }

    private static void pointsOnce() {
        terms("No point of the map is on two lines, or twice on one, but for the last point of a line, which can be that "
                + "at which it begins, if it has 4 steps or more then: it is closed then, and gets no more steps.");
        ContourLabels x = Checks.one(5, 200, "002");
        for (int number = 0; number <= 3; number++) {
            int taken = x.pointOf(0, number);
            Checks.refused("begin at " + taken, () -> Checks.one(5, 200, "002"), Checks.STATE, y -> y.begin(5, taken));
        }
        // A second line beside each point of the first one cannot step on it: not on its first or last point either.
        for (int number = 0; number <= 3; number++) {
            for (int direction = 0; direction < 8; direction++) {
                int from = beside(x.pointOf(0, number), direction);
                int way = (direction + 4) % 8;
                if (x.lineAt(from) == Checks.NONE) {
                    ContourLabels y = Checks.one(5, 200, "002");
                    y.begin(5, from);
                    Checks.due("onto the point " + number + " from " + from, 4, () -> y.whyNotStepped(1, way));
                    Checks.due("the step", Checks.STATE, () -> y.step(1, way));
                }
            }
        }
        // Onto each of its own points but the first one.
        ContourLabels y = Checks.one(5, 200, "00244");
        Checks.due("back onto its last but one", 4, () -> y.whyNotStepped(0, 0));
        Checks.due("onto its second point", 4, () -> y.whyNotStepped(0, 7));
        Checks.due("onto its first point", 0, () -> y.whyNotStepped(0, 6));
        Checks.due("onto no point", 0, () -> y.whyNotStepped(0, 5));
        // A long line closes at its first point alone: not at points with lower or higher numbers.
        for (int direction = 0; direction < 8; direction++) {
            int ahead = direction;
            int back = (direction + 4) % 8;
            ContourLabels straight = Checks.one(5, Checks.point(10, 8), ("" + ahead).repeat(5));
            Checks.due("right back", 4, () -> straight.whyNotStepped(0, back));
            Checks.due("right back", Checks.STATE, () -> straight.step(0, back));
            straight.begin(5, beside(straight.pointOf(0, 5), ahead));
            Checks.due("onto another line", 4, () -> straight.whyNotStepped(0, ahead));
        }
    }

    private static void closing() {
        for (int eighths = 0; eighths < 8; eighths++) {
            int turned = eighths;
            ContourLabels one = Checks.one(5, 200, turn("0", turned));
            Checks.due("2 steps do not close", 4, () -> one.whyNotStepped(0, (turned + 4) % 8));
        }
        for (int quarters = 0; quarters < 8; quarters += 2) {
            int turned = quarters;
            ContourLabels two = Checks.one(5, 200, turn("02", turned));
            Checks.due("3 steps do not close", 4, () -> two.whyNotStepped(0, (5 + turned) % 8));
            Checks.due("3 steps do not close", Checks.STATE, () -> two.step(0, (5 + turned) % 8));
            Checks.due("open", false, () -> two.isClosed(0));
            for (String ring : new String[] {SQUARE, DIAMOND}) {
                ContourLabels x = Checks.one(5, 200, turn(ring.substring(0, 3), turned));
                int last = (ring.charAt(3) - '0' + turned) % 8;
                Checks.due("the 4th step may close", 0, () -> x.whyNotStepped(0, last));
                Checks.due("the 4th step closes", true, () -> x.step(0, last));
                Checks.due("closed", true, () -> x.isClosed(0));
                Checks.due("the last point", 200, () -> x.pointOf(0, 4));
                for (int direction = 0; direction < 8; direction++) {
                    int way = direction;
                    Checks.due("no more steps", 1, () -> x.whyNotStepped(0, way));
                    Checks.due("no more steps", Checks.STATE, () -> x.step(0, way));
                }
                Checks.due("4 steps", 4, () -> x.stepsOf(0));
            }
        }
        // The first point of another line is no end to close at.
        ContourLabels other = Checks.one(5, 200, "024");
        other.begin(5, 199);
        Checks.due("onto another line's first point", 4, () -> other.whyNotStepped(1, 0));
        ContourLabels longest = Checks.one(5, 0, "0".repeat(23) + "2".repeat(7) + "4".repeat(23) + "6".repeat(6));
        Checks.due("59 steps", 59, () -> longest.stepsOf(0));
        Checks.due("the 60th closes", true, () -> longest.step(0, 6));
        Checks.due("60 steps, closed", 1, () -> longest.whyNotStepped(0, 6));
    }

    private static void crossings() {
        terms("Two slanting steps, of the same line or not, never cross between four points.");
        int[][] diagonals = {{0, 0, 1}, {1, 1, 5}, {1, 0, 3}, {0, 1, 7}};
        for (int corner : new int[] {0, 22, Checks.point(0, 14), Checks.point(22, 14), Checks.point(9, 7)}) {
            for (int[] one : diagonals) {
                for (int[] other : diagonals) {
                    int from = corner + Checks.point(one[0], one[1]);
                    int there = corner + Checks.point(other[0], other[1]);
                    ContourLabels x = Checks.one(5, from, "" + one[2]);
                    if (x.lineAt(there) == Checks.NONE) {
                        x.begin(5, there);
                        Checks.due("across from " + there, 5, () -> x.whyNotStepped(1, other[2]));
                        Checks.due("the step", Checks.STATE, () -> x.step(1, other[2]));
                        Checks.due("no step is made", 0, () -> x.stepsOf(1));
                    }
                }
            }
        }
    }

    private static void cornersOfCrossings() {
        // The last line of eight and the last step of a line count as well.
        ContourLabels x = new ContourLabels();
        for (int line = 0; line < 7; line++) {
            x.begin(5, 300 + 2 * line);
        }
        Checks.line(x, 5, 100, "0001");
        x.wipe(0);
        x.begin(5, 104);
        Checks.due("across the last step of a line", 5, () -> x.whyNotStepped(7, 3));
        ContourLabels y = Checks.one(5, 104, "");
        for (int line = 0; line < 6; line++) {
            y.begin(5, 300 + 2 * line);
        }
        Checks.line(y, 5, 103, "1");
        Checks.due("across a step of the line 7", 5, () -> y.whyNotStepped(0, 3));
        // Across its own steps, the first one too, and when it would close.
        ContourLabels own = Checks.one(5, 200, "16");
        Checks.due("across its own first step", 5, () -> own.whyNotStepped(0, 3));
        Checks.due("not across", 0, () -> own.whyNotStepped(0, 5));
        ContourLabels ring = Checks.one(5, Checks.point(5, 5), "60124");
        Checks.line(ring, 5, Checks.point(6, 5), "3");
        Checks.due("a closing step across", 5, () -> ring.whyNotStepped(0, 5));
        // Between points that lines have, but no step joins; and beside a slanting step, not across.
        ContourLabels points = Checks.one(5, 200, "");
        points.begin(5, 225);
        points.begin(5, 201);
        Checks.due("between two points", 0, () -> points.whyNotStepped(2, 3));
        ContourLabels square = Checks.one(5, 200, "02");
        square.begin(5, 224);
        Checks.due("a corner of straight steps", 4, () -> square.whyNotStepped(1, 7));
        ContourLabels around = Checks.one(5, 201, "34");
        Checks.line(around, 5, 200, "");
        Checks.due("beside a slanting step", 4, () -> around.whyNotStepped(1, 2));
        Checks.due("beside a slanting step", 4, () -> around.whyNotStepped(1, 0));
        ContourLabels parallel = Checks.one(5, 200, "1");
        parallel.begin(5, 201);
        Checks.due("side by side", 0, () -> parallel.whyNotStepped(1, 1));
        Checks.due("across", 5, () -> parallel.whyNotStepped(1, 3));
        parallel.undo();
        parallel.undo();
        parallel.begin(5, 201);
        Checks.due("the step is undone", 0, () -> parallel.whyNotStepped(1, 3));
    }

    private static void bends() {
        terms("At a point of a line that is not its first or last one there is a bend: how many eighths of a turn its next "
                + "step differs from the step before, 0 to 4, to whichever side.");
        int[] eighths = {0, 1, 2, 3, 4, 3, 2, 1};
        for (int before = 0; before < 8; before++) {
            for (int more = 0; more < 8; more++) {
                int behind = (before + more) % 8;
                int bend = eighths[more];
                ContourLabels x = Checks.one(5, Checks.point(10, 8), "" + before);
                Checks.due("no bend ahead of a second step", 0, () -> x.bendAt(0, 1));
                if (more == 4) {
                    Checks.due("right back", 4, () -> x.whyNotStepped(0, behind));
                } else {
                    x.step(0, behind);
                    Checks.due("the bend " + before + " " + behind, bend, () -> x.bendAt(0, 1));
                    Checks.due("the first point", 0, () -> x.bendAt(0, 0));
                    Checks.due("the last point", 0, () -> x.bendAt(0, 2));
                }
            }
        }
        ContourLabels point = Checks.one(5, 200, "");
        Checks.due("a point", 0, () -> point.bendAt(0, 0));
        // The first and the last line's points have nothing to do with one another.
        ContourLabels two = Checks.one(5, 200, "00");
        Checks.line(two, 5, 300, "22");
        Checks.due("the first point of the line 1", 0, () -> two.bendAt(1, 0));
        Checks.due("the last point of the line 0", 0, () -> two.bendAt(0, 2));
    }

    private static void bendsOfClosedLines() {
        terms("A closed line has a bend at its first point and at its last one, too (which is the same): between its last "
                + "step and its first one.");
        String[] rings = {SQUARE, DIAMOND, "024460", "01234567", "12345670", "00134466", "012244666", "11244666",
            "07523"};
        int[] bends = {2, 2, 0, 1, 1, 2, 2, 3, 3};
        for (int ring = 0; ring < rings.length; ring++) {
            for (int eighths = 0; eighths < 8; eighths += 2) {
                for (boolean isBack : new boolean[] {false, true}) {
                    String way = turn(isBack ? back(rings[ring]) : rings[ring], eighths);
                    ContourLabels x = Checks.one(5, Checks.point(10, 8), way);
                    int bend = bends[ring];
                    Checks.due(way + " is closed", true, () -> x.isClosed(0));
                    Checks.due("the first point of " + way, bend, () -> x.bendAt(0, 0));
                    Checks.due("the last point of " + way, bend, () -> x.bendAt(0, way.length()));
                    x.undo();
                    Checks.due("open again: the first point", 0, () -> x.bendAt(0, 0));
                    Checks.due("open again: the last point", 0, () -> x.bendAt(0, way.length() - 1));
                }
            }
        }
    }

    private static void sizes() {
        terms("The size of a label is 2 points for a level below 10, otherwise 3.");
        for (int level = 0; level <= 99; level++) {
            int size = level < 10 ? 2 : 3;
            ContourLabels x = Checks.one(level, 200, "00");
            Checks.due("the size at the level " + level, size, () -> x.sizeOf(0));
            Checks.due("the places at the level " + level, 4 - size, () -> x.placesOf(0));
        }
    }

    private static void placesAtTheEnds() {
        terms("A place for a label of a line is told by the number of its first point: it has as many points of the line "
                + "as the size tells, from this one on, no further than the last point of the line, and without the first "
                + "point of a closed line at its end.");
        for (int steps = 0; steps <= 20; steps++) {
            for (int size = 2; size <= 3; size++) {
                ContourLabels x = Checks.one(size == 2 ? 9 : 10, Checks.point(1, 8), "0".repeat(steps));
                checkPlaces(x, steps + 1 - size, steps);
            }
        }
        for (int side = 1; side <= 8; side++) {
            for (int size = 2; size <= 3; size++) {
                String way = "0".repeat(side) + "2".repeat(side) + "4".repeat(side) + "6".repeat(side);
                ContourLabels x = Checks.one(size == 2 ? 9 : 10, Checks.point(5, 5), way);
                checkPlaces(x, 4 * side - size, 4 * side);
                x.undo();
                checkPlaces(x, 4 * side - size, 4 * side - 1);
            }
        }
    }

    private static void checkPlaces(ContourLabels x, int last, int steps) {
        for (int place = 0; place <= steps; place++) {
            int here = place;
            boolean isPlace = place <= last;
            Checks.due("the place " + here + " of " + steps, !isPlace, () -> x.bendOf(0, here) == Checks.NONE);
            Checks.due("the reason at " + here + " of " + steps, !isPlace, () -> x.whyNotLabelled(0, here) == 1);
        }
        Checks.due("behind the line", Checks.INDEX, () -> x.bendOf(0, steps + 1));
        Checks.due("behind the line", Checks.INDEX, () -> x.whyNotLabelled(0, steps + 1));
        Checks.due("ahead of the line", Checks.INDEX, () -> x.bendOf(0, -1));
        Checks.due("ahead of the line", Checks.INDEX, () -> x.whyNotLabelled(0, -1));
    }

    private static void bendsOfPlaces() {
        terms("The bend of a place is the bends at all its points, and at the point with the number before its first one "
                + "and that with the number behind its last one, as far as the line has points with these numbers (the "
                + "place 0 has none before it, on a closed line neither), added up.");
        // A single bend of 3 is counted at the points from one before the place to one behind it, and nowhere else.
        for (int size = 2; size <= 3; size++) {
            for (int at = 1; at <= 9; at++) {
                ContourLabels x = Checks.one(size == 2 ? 9 : 10, Checks.point(12, 8),
                        "0".repeat(at) + "3" + "3".repeat(Math.min(6, 9 - at)));
                int last = x.stepsOf(0) + 1 - size;
                for (int place = 0; place <= last; place++) {
                    int here = place;
                    int bend = at >= place - 1 && at <= place + size ? 3 : 0;
                    Checks.due("the bend at " + at + " of the place " + here, bend, () -> x.bendOf(0, here));
                }
            }
        }
    }

    private static void bendsBesidePlaces() {
        // Closed: at the place 0 the bend at the point 0 counts, but none before it; at the last place that behind it.
        ContourLabels two = Checks.one(9, Checks.point(5, 5), "000222444666");
        int[] bends = {2, 4, 2, 2, 4, 2, 2, 4, 2, 2, 4, Checks.NONE, Checks.NONE};
        for (int place = 0; place < bends.length; place++) {
            int here = place;
            Checks.due("the closed line's place " + here, bends[here], () -> two.bendOf(0, here));
        }
        ContourLabels three = Checks.one(10, Checks.point(5, 5), SQUARE);
        int[] sharp = {8, 10, Checks.NONE, Checks.NONE, Checks.NONE};
        for (int place = 0; place < sharp.length; place++) {
            int here = place;
            Checks.due("the small square's place " + here, sharp[here], () -> three.bendOf(0, here));
        }
        // Closed in the middle of a side: the bend at its last point but one is not before the place 0.
        ContourLabels bent = Checks.one(9, Checks.point(5, 5), "0002244446" + "7");
        Checks.due("closed", true, () -> bent.isClosed(0));
        Checks.due("the place 0 has none before it", 1, () -> bent.bendOf(0, 0));
        Checks.due("the last place has the first point behind it", 4, () -> bent.bendOf(0, 9));
        ContourLabels open = Checks.one(9, Checks.point(5, 5), "0002244446");
        Checks.due("open: the place 0", 0, () -> open.bendOf(0, 0));
        Checks.due("open: the last place", 2, () -> open.bendOf(0, 9));
        ContourLabels whole = Checks.one(9, Checks.point(5, 5), "0");
        Checks.due("nothing before and behind", 0, () -> whole.bendOf(0, 0));
    }

    private static void acrossAndDown() {
        terms("A place goes as far across as the columns of its last and first point differ, and as far down as their rows "
                + "do.");
        // The point in between does not count: as far across as down, by another way.
        for (int eighths = 0; eighths < 8; eighths++) {
            int[] reason = {0, 0, 3, 0, 0, 0, 3, 0};
            int turned = eighths;
            ContourLabels x = Checks.one(10, 200, turn("00", turned));
            Checks.due("straight to " + turned, reason[turned], () -> x.whyNotLabelled(0, 0));
            ContourLabels bent = Checks.one(10, 200, turn("01", turned));
            int[] reasonOfBent = {0, 3, 3, 0, 0, 3, 3, 0};
            Checks.due("bent from " + turned, reasonOfBent[turned], () -> bent.whyNotLabelled(0, 0));
        }
    }

    private static void turned() {
        String turned = "A label at a place is turned if it goes to the left: then it is read from its last point to its "
                + "first one.";
        String[] ways = {"00", "01", "07", "11", "10", "77", "70", "44", "43", "45", "33", "34", "55", "54"};
        for (int level = 9; level <= 10; level++) {
            for (String way : ways) {
                ContourLabels x = Checks.one(level, 200, way);
                x.label(0, 0);
                int last = x.pointOf(0, level - 8);
                boolean left = last % 24 < 200 % 24;
                terms(turned);
                Checks.due("is it turned to " + way, left, () -> x.isTurned(0));
                Checks.due("where it is read from, to " + way, left ? last : 200, () -> x.readFrom(0));
                terms("No label stands on its head.");
                Checks.due("it is read to the right", true, () -> x.readFrom(0) % 24 < (left ? 200 : last) % 24);
            }
        }
    }

    private static void standing() {
        terms("It stands if it goes further down, or up, than across.");
        String[] ways = {"2", "6", "22", "66", "12", "21", "32", "23", "56", "65", "76", "67"};
        for (String way : ways) {
            ContourLabels x = Checks.one(way.length() == 1 ? 9 : 10, 200, way);
            Checks.due("to " + way, 3, () -> x.whyNotLabelled(0, 0));
            Checks.due("to " + way, Checks.STATE, () -> x.label(0, 0));
        }
        for (String way : new String[] {"1", "3", "5", "7", "11", "33", "55", "77", "0", "4", "10", "43"}) {
            ContourLabels x = Checks.one(way.length() == 1 ? 9 : 10, 200, way);
            Checks.due("as far across, to " + way, 0, () -> x.whyNotLabelled(0, 0));
        }
    }

    private static void oneLabel() {
        terms("A line has at most one label.");
        ContourLabels x = Checks.one(5, 200, "00000");
        Checks.due("none at first", 0, x::labels);
        for (int place : new int[] {0, 4, 4, 2}) {
            Checks.due("set", 0, () -> x.label(0, place));
            Checks.due("one", 1, x::labels);
            Checks.due("there", place, () -> x.labelOf(0));
        }
        x.labelBest(0);
        Checks.due("still one", 1, x::labels);
    }

    private static void gaps() {
        terms("The gap is 1 to 6 (2 at first).");
        ContourLabels x = new ContourLabels();
        Checks.due("at first", 2, x::gap);
        int before = 2;
        for (int gap : new int[] {1, 2, 3, 4, 5, 6, 1, 6}) {
            int was = before;
            Checks.due("before " + gap, was, () -> x.setGap(gap));
            Checks.due("the gap", gap, x::gap);
            before = gap;
        }
        for (int gap : new int[] {0, 7, -1, Checks.LEAST, Checks.MOST}) {
            Checks.refused("the gap " + gap, Checks::rich, Checks.ARGUMENT, y -> y.setGap(gap));
        }
    }

    private static void tooNear() {
        terms("Two labels are too near if a point of the one and a point of the other are less than the gap apart: the "
                + "greater one of the differences of columns and rows.");
        for (int level = 9; level <= 10; level++) {
            int size = level - 7;
            for (int across = -9; across <= 9; across++) {
                for (int down = -7; down <= 7; down++) {
                    int apart = Math.max(Math.max(0, Math.abs(across) - size + 1), Math.abs(down));
                    if (apart > 0) {
                        checkNear(level, across, down, apart);
                    }
                }
            }
        }
    }

    private static void checkNear(int level, int across, int down, int apart) {
        String way = "0".repeat(level - 8);
        ContourLabels x = Checks.one(level, Checks.point(10, 7), way);
        Checks.line(x, level, Checks.point(10 + across, 7 + down), way);
        x.setGap(1);
        x.label(0, 0);
        for (int gap = 1; gap <= 6; gap++) {
            x.setGap(gap);
            int reason = apart < gap ? 4 : 0;
            Checks.due(across + " across, " + down + " down, the gap " + gap, reason, () -> x.whyNotLabelled(1, 0));
            Checks.due("the other's own label does not count", 0, () -> x.whyNotLabelled(0, 0));
        }
        x.setGap(1);
        x.label(1, 0);
        for (int gap = 1; gap <= 6; gap++) {
            x.setGap(gap);
            int reason = apart < gap ? 4 : 0;
            Checks.due("pairs", apart < gap ? 1 : 0, x::tooNear);
            Checks.due("and the other way round", reason, () -> x.whyNotLabelled(0, 0));
        }
    }

    private static final String BEST = "The best place of a line is, of those with whyNotLabelled() 0, the one with the "
            + "least bend, of several the one that is furthest from all labels of other lines (the least distance of their "
            + "points; 99 without such), of these the one with the lowest number.";

    private static void best() {
        terms(BEST);
        Object[][] alone = {{"", Checks.NONE}, {"0", 0}, {"00000", 0}, {"2", Checks.NONE}, {"01", 0}, {"100000", 3},
            {"0100000", 4}, {"000001", 0}, {"02020202", Checks.NONE}, {"22200", Checks.NONE}, {"222000", 5},
            {"21000", 4}, {"0101010", Checks.NONE}, {"1222", 0}, {"4444", 0}, {"2222100", 6}};
        for (Object[] row : alone) {
            ContourLabels x = Checks.one(5, Checks.point(12, 8), (String) row[0]);
            Checks.due("alone " + row[0], row[1], () -> x.bestPlace(0));
        }
        // Its own label is not in the way, and keeps no distance.
        ContourLabels own = Checks.one(5, 200, "0000");
        own.label(0, 0);
        Checks.due("its own label at 0", 0, () -> own.bestPlace(0));
        own.label(0, 3);
        Checks.due("its own label at 3", 0, () -> own.bestPlace(0));
    }

    // A line of ten places in the row 8, from the column 6 on, and a label of another line.
    private static void bestByDistance() {
        int[][] labels = {{3, 2, 9}, {18, 2, 0}, {10, 2, 0}, {3, 8, 9}, {0, 7, 9}, {17, 8, 0}, {18, 7, 0}, {10, 7, 9},
            {11, 9, 0}, {3, 15, 9}};
        for (int[] at : labels) {
            ContourLabels x = Checks.one(5, Checks.point(6, 8), "0000000000");
            labelled(x, at[0], at[1]);
            Checks.due("the label at " + at[0] + " " + at[1], at[2], () -> x.bestPlace(0));
        }
        ContourLabels between = Checks.one(5, Checks.point(6, 8), "0000000000");
        labelled(between, 3, 8);
        labelled(between, 19, 8);
        Checks.due("the nearer one of two labels counts", 5, () -> between.bestPlace(0));
        // The distance comes ahead of the number, the least bend ahead of the distance.
        ContourLabels two = Checks.one(5, Checks.point(4, 8), "0001000000");
        Checks.due("without labels the first straight place", 0, () -> two.bestPlace(0));
        labelled(two, 5, 11);
        Checks.due("the straight place far away", 9, () -> two.bestPlace(0));
        two.wipe(1);
        labelled(two, 11, 12);
        Checks.due("the straight place at the other end", 0, () -> two.bestPlace(0));
        ContourLabels bent = Checks.one(5, Checks.point(4, 8), "0000001");
        labelled(bent, 1, 8);
        Checks.due("the furthest place is bent", 3, () -> bent.bestPlace(0));
        bent.setGap(5);
        Checks.due("as far as the gap", 3, () -> bent.bestPlace(0));
        bent.setGap(6);
        Checks.due("the straight ones are too near", 6, () -> bent.bestPlace(0));
    }

    private static void labelled(ContourLabels x, int column, int row) {
        int line = Checks.line(x, 5, Checks.point(column, row), "0");
        x.label(line, 0);
    }

    private static void within() {
        terms("A point of the map is within a closed line if it is not on it, and the line goes round it.");
        picture(SQUARE);
        picture(DIAMOND, Checks.point(5, 6));
        picture("00224466", Checks.point(6, 6));
        picture("11335577", Checks.point(5, 6), Checks.point(4, 7), Checks.point(5, 7), Checks.point(6, 7),
                Checks.point(5, 8));
        // An open line goes round nothing, though only one step is missing.
        ContourLabels open = Checks.one(5, Checks.point(5, 5), "0022446");
        Checks.due("open, by rays", false, () -> open.isWithinByRays(0, Checks.point(6, 6)));
        Checks.due("open, by spreading", false, () -> open.isWithinBySpreading(0, Checks.point(6, 6)));
        Checks.due("open", 0, () -> open.pointsWithin(0));
        // The whole map's edge cannot be a line of 60 steps; the widest ring at each corner can.
        checkRing(0, "0".repeat(18) + "2".repeat(12) + "4".repeat(18) + "6".repeat(12));
        checkRing(383, "4".repeat(18) + "6".repeat(12) + "0".repeat(18) + "2".repeat(12));
        checkRing(23, "2".repeat(15) + "4".repeat(15) + "6".repeat(15) + "0".repeat(15));
        checkRing(Checks.point(0, 15), "0".repeat(23) + "6".repeat(7) + "4".repeat(23) + "2".repeat(7));
    }

    private static void checkRing(int start, String way) {
        ContourLabels x = Checks.one(5, start, way);
        int left = 23;
        int right = 0;
        int top = 15;
        int bottom = 0;
        for (int number = 0; number <= way.length(); number++) {
            int there = x.pointOf(0, number);
            left = Math.min(left, there % 24);
            right = Math.max(right, there % 24);
            top = Math.min(top, there / 24);
            bottom = Math.max(bottom, there / 24);
        }
        Checks.due("closed", true, () -> x.isClosed(0));
        int[] all = new int[(right - left - 1) * (bottom - top - 1)];
        int count = 0;
        for (int row = top + 1; row < bottom; row++) {
            for (int column = left + 1; column < right; column++) {
                all[count++] = Checks.point(column, row);
            }
        }
        checkWithin(way, start, all);
    }

    /** A ring from the point in the column 5 and the row 5, begun at each of its points, both ways round. */
    private static void picture(String ring, int... within) {
        ContourLabels first = Checks.one(5, Checks.point(5, 5), ring);
        for (int begun = 0; begun < ring.length(); begun++) {
            String way = ring.substring(begun) + ring.substring(0, begun);
            checkWithin(way, first.pointOf(0, begun), within);
            checkWithin(back(way), first.pointOf(0, begun), within);
        }
    }

    private static void checkWithin(String way, int start, int... within) {
        ContourLabels x = Checks.one(5, start, way);
        Arrays.sort(within);
        for (int point = 0; point < 384; point++) {
            int here = point;
            boolean due = Arrays.binarySearch(within, point) >= 0;
            Checks.due(way + " round " + here + " by rays", due, () -> x.isWithinByRays(0, here));
        }
        ContourLabels y = Checks.one(5, start, way);
        for (int point = 0; point < 384; point++) {
            int here = point;
            boolean due = Arrays.binarySearch(within, point) >= 0;
            Checks.due(way + " round " + here + " by spreading", due, () -> y.isWithinBySpreading(0, here));
        }
        Checks.due("points within " + way, within.length, () -> y.pointsWithin(0));
    }

    // A pocket in the middle of a ring, with a slit without points as the way out, to each of the four sides; and one
    // whose way out goes between two slanting steps that touch nowhere.
    private static void withinBySlits() {
        String slit = "4" + "2222" + "0000" + "6666" + "44" + "2" + "0" + "22" + "44" + "666";
        for (int eighths = 0; eighths < 8; eighths += 2) {
            checkWithin(turn(slit, eighths), Checks.point(10, 8));
            checkWithin(back(turn(slit, eighths)), Checks.point(10, 8));
        }
        String slant = "41177552135";
        for (int eighths = 0; eighths < 8; eighths += 2) {
            checkWithin(turn(slant, eighths), Checks.point(10, 8));
            checkWithin(back(turn(slant, eighths)), Checks.point(10, 8));
        }
    }

    // The same with a way out between slanting steps side by side: one point is within, the pocket is not.
    private static void withinBySlants() {
        String way = "563570165442421117";
        for (int eighths = 0; eighths < 8; eighths += 2) {
            int within = beside(Checks.point(10, 8), (4 + eighths) % 8);
            checkWithin(turn(way, eighths), Checks.point(10, 8), within);
            checkWithin(back(turn(way, eighths)), Checks.point(10, 8), within);
        }
    }

    // What a line shuts off together with the edge of the map is not within: spreading begins all round the map.
    private static void withinAtTheEdge() {
        int[] bays = {Checks.point(4, 0), Checks.point(23, 4), Checks.point(19, 15), Checks.point(0, 11)};
        int[] corners = {Checks.point(0, 2), Checks.point(21, 0), Checks.point(23, 13), Checks.point(2, 15)};
        for (int side = 0; side < 4; side++) {
            checkWithin(turn("222000666" + "0" + "2222444446666" + "0", 2 * side), bays[side]);
            checkWithin(turn("7703336", 2 * side), corners[side]);
        }
        // An answer leaves nothing behind for the next one, of a line that goes round more.
        ContourLabels x = Checks.one(5, Checks.point(2, 2), DIAMOND);
        Checks.line(x, 5, 23, "2".repeat(15) + "4".repeat(15) + "6".repeat(15) + "0".repeat(15));
        for (int column = 9; column <= 22; column += 2) {
            for (int row = 1; row <= 14; row++) {
                int point = Checks.point(column, row);
                Checks.due("within the small line", false, () -> x.isWithinBySpreading(0, point));
                Checks.due("within the wide line", true, () -> x.isWithinBySpreading(1, point));
            }
        }
    }

    private static void linesWithin() {
        terms("A line is within a closed line if its first point is.");
        ContourLabels x = Checks.one(5, Checks.point(5, 5), "0000" + "2222" + "4444" + "6666");
        Checks.line(x, 5, Checks.point(6, 6), "12");
        Checks.line(x, 5, Checks.point(4, 4), "");
        Checks.line(x, 5, Checks.point(8, 8), "");
        Checks.line(x, 5, Checks.point(10, 7), "");
        int[] round = {Checks.NONE, 0, Checks.NONE, 0, Checks.NONE};
        for (int line = 0; line < round.length; line++) {
            int here = line;
            Checks.due("round " + here, round[here], () -> x.lineRound(here));
        }
    }

    private static void lineRound() {
        terms("The line round a line is, of the closed lines that it is within, the one that is within all the others.");
        // Four rings, one in the other, begun in every order; in the innermost one a point.
        int[][] orders = {{0, 1, 2, 3}, {3, 2, 1, 0}, {1, 3, 0, 2}, {2, 0, 3, 1}, {0, 3, 1, 2}, {1, 0, 3, 2}};
        for (int[] order : orders) {
            ContourLabels x = new ContourLabels();
            x.begin(5, Checks.point(11, 7));
            int[] lineOfRing = new int[4];
            for (int ring : order) {
                String side = "0".repeat(2 * ring + 2);
                int start = Checks.point(10 - ring, 6 - ring);
                lineOfRing[ring] = Checks.line(x, 5, start, side + turn(side, 2) + turn(side, 4) + turn(side, 6));
            }
            Checks.due("round the point", lineOfRing[0], () -> x.lineRound(0));
            for (int ring = 0; ring < 4; ring++) {
                int here = lineOfRing[ring];
                int due = ring == 3 ? Checks.NONE : lineOfRing[ring + 1];
                Checks.due("round the ring " + ring, due, () -> x.lineRound(here));
            }
            Checks.line(x, 5, Checks.point(2, 2), SQUARE);
            Checks.due("round a ring beside them", Checks.NONE, () -> x.lineRound(5));
        }
        // An open line goes round nothing.
        ContourLabels x = Checks.one(5, Checks.point(5, 5), "0022446");
        x.begin(5, Checks.point(6, 6));
        Checks.due("nothing is closed", Checks.NONE, () -> x.lineRound(1));
        x.step(0, 6);
        Checks.due("now it is", 0, () -> x.lineRound(1));
    }

    private static void steady() {
        terms("A line is steady if there is no line round it, or its level and that of the line round it differ by 5.");
        for (int outer : new int[] {0, 5, 50, 94, 99}) {
            for (int inner = 0; inner <= 99; inner++) {
                ContourLabels x = Checks.one(outer, Checks.point(5, 5), DIAMOND);
                x.begin(inner, Checks.point(5, 6));
                boolean due = inner == outer - 5 || inner == outer + 5;
                Checks.due(inner + " within " + outer, due, () -> x.isSteady(1));
                Checks.due("nothing round it", true, () -> x.isSteady(0));
            }
        }
        // Only the line round it counts, not the one round that one.
        ContourLabels x = Checks.one(10, Checks.point(4, 4), "00002222" + "44446666");
        Checks.line(x, 20, Checks.point(5, 5), "00224466");
        x.begin(15, Checks.point(6, 6));
        Checks.due("5 to both", true, () -> x.isSteady(2));
        x.setLevel(0, 20);
        Checks.due("the outer one does not count", true, () -> x.isSteady(2));
        x.setLevel(1, 21);
        Checks.due("the inner one does", false, () -> x.isSteady(2));
    }

    private static void constants() {
        terms("The constants: `NONE = -1`: There is none.");
        Checks.due("NONE", -1, () -> ContourLabels.NONE);
    }
}
