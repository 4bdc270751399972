/**
 * Contour labels that are set along lines, upright and away from bends.
 * The document ../shared/DOC.md says what each call of the face answers.
 */
public final class ContourLabels {
    /** There is none. */
    public static final int NONE = -1;

    private static final int COLUMNS = 24;
    private static final int ROWS = 16;
    private static final int POINTS = 384;
    private static final int DIRECTIONS = 8;
    private static final int MOST_LINES = 8;
    private static final int MOST_STEPS = 60;
    private static final int MOST_LEVEL = 99;
    private static final int LEAST_GAP = 1;
    private static final int MOST_GAP = 6;
    private static final int FIRST_GAP = 2;
    private static final int STEADY_DIFFERENCE = 5;
    private static final int LEAST_CODE = 32;
    private static final int MOST_CODE = 126;

    private static final int[] ACROSS = {1, 1, 0, -1, -1, -1, 0, 1};
    private static final int[] DOWN = {0, 1, 1, 1, 0, -1, -1, -1};

    private final Sheet sheet;
    private final History history;
    private final OrderText text;
    private final Drawing drawing;

    public ContourLabels() {
        sheet = new Sheet();
        history = new History();
        text = new OrderText();
        drawing = new Drawing();
    }

    // ---- changes of lines

    public int begin(int level, int point)
            throws IndexOutOfBoundsException, IllegalArgumentException, IllegalStateException {
        requirePoint(point);
        requireLevel(level);
        if (!sheet.hasRoomAt(point)) {
            throw new IllegalStateException("there are 8 lines, or a line has this point");
        }
        history.save(sheet);
        return sheet.addLine(level, point);
    }

    public boolean step(int line, int direction)
            throws IndexOutOfBoundsException, IllegalArgumentException, IllegalStateException {
        requireLine(line);
        requireDirection(direction);
        if (sheet.reasonAgainstStep(line, direction) != 0) {
            throw new IllegalStateException("the step cannot be added");
        }
        history.save(sheet);
        sheet.addStep(line, direction);
        return sheet.isRing(line);
    }

    public int wipe(int line) throws IndexOutOfBoundsException {
        requireLine(line);
        history.save(sheet);
        sheet.removeLine(line);
        return sheet.lineCount();
    }

    public int setLevel(int line, int level)
            throws IndexOutOfBoundsException, IllegalArgumentException {
        requireLine(line);
        requireLevel(level);
        history.save(sheet);
        int before = sheet.levelIn(line);
        sheet.putLevel(line, level);
        sheet.putLabel(line, NONE);
        return before;
    }

    // ---- changes of labels

    public int label(int line, int place) throws IndexOutOfBoundsException, IllegalStateException {
        requireNumber(line, place);
        if (Labelling.reasonAgainst(sheet, line, place) != 0) {
            throw new IllegalStateException("the label cannot be set at this place");
        }
        history.save(sheet);
        sheet.putLabel(line, place);
        return Labelling.bendOfPlace(sheet, line, place);
    }

    public int unlabel(int line) throws IndexOutOfBoundsException, IllegalStateException {
        requireLine(line);
        int place = sheet.labelIn(line);
        if (place == NONE) {
            throw new IllegalStateException("the line has no label");
        }
        history.save(sheet);
        sheet.putLabel(line, NONE);
        return place;
    }

    public int labelBest(int line) throws IndexOutOfBoundsException, IllegalStateException {
        requireLine(line);
        int place = Labelling.best(sheet, line);
        if (place == NONE) {
            throw new IllegalStateException("the line has no place for its label");
        }
        history.save(sheet);
        sheet.putLabel(line, place);
        return place;
    }

    public int labelAll() {
        history.save(sheet);
        Labelling.setAll(sheet);
        return sheet.labelCount();
    }

    public int setGap(int gap) throws IllegalArgumentException {
        if (gap < LEAST_GAP || gap > MOST_GAP) {
            throw new IllegalArgumentException("gap is out of range");
        }
        history.save(sheet);
        int before = sheet.gapWidth();
        sheet.putGap(gap);
        return before;
    }

    // ---- lines

    public int lines() {
        return sheet.lineCount();
    }

    public int levelOf(int line) throws IndexOutOfBoundsException {
        requireLine(line);
        return sheet.levelIn(line);
    }

    public int stepsOf(int line) throws IndexOutOfBoundsException {
        requireLine(line);
        return sheet.stepCount(line);
    }

    public int pointOf(int line, int number) throws IndexOutOfBoundsException {
        requireNumber(line, number);
        return sheet.pointAt(line, number);
    }

    public int lineAt(int point) throws IndexOutOfBoundsException {
        requirePoint(point);
        return sheet.lineOn(point);
    }

    public boolean isClosed(int line) throws IndexOutOfBoundsException {
        requireLine(line);
        return sheet.isRing(line);
    }

    public int whyNotStepped(int line, int direction)
            throws IndexOutOfBoundsException, IllegalArgumentException {
        requireLine(line);
        requireDirection(direction);
        return sheet.reasonAgainstStep(line, direction);
    }

    public int bendAt(int line, int number) throws IndexOutOfBoundsException {
        requireNumber(line, number);
        return sheet.bendThere(line, number);
    }

    public double lengthByKinds(int line) throws IndexOutOfBoundsException {
        requireLine(line);
        int steps = sheet.stepCount(line);
        int slanting = 0;
        for (int number = 0; number < steps; number++) {
            if (isSlanting(sheet.directionAt(line, number))) {
                slanting++;
            }
        }
        return (double) (steps - slanting) + (double) slanting * slantingLength();
    }

    public double lengthBySteps(int line) throws IndexOutOfBoundsException {
        requireLine(line);
        int steps = sheet.stepCount(line);
        double length = 0.0;
        for (int number = 0; number < steps; number++) {
            length += isSlanting(sheet.directionAt(line, number)) ? slantingLength() : 1.0;
        }
        return length;
    }

    // ---- labels

    public int gap() {
        return sheet.gapWidth();
    }

    public int labels() {
        return sheet.labelCount();
    }

    public int labelOf(int line) throws IndexOutOfBoundsException {
        requireLine(line);
        return sheet.labelIn(line);
    }

    public boolean isTurned(int line) throws IndexOutOfBoundsException {
        requireLine(line);
        int place = sheet.labelIn(line);
        return place != NONE && Labelling.goesLeft(sheet, line, place);
    }

    public int readFrom(int line) throws IndexOutOfBoundsException {
        requireLine(line);
        int place = sheet.labelIn(line);
        if (place == NONE) {
            return NONE;
        }
        if (Labelling.goesLeft(sheet, line, place)) {
            return sheet.pointAt(line, Labelling.lastNumber(sheet, line, place));
        }
        return sheet.pointAt(line, place);
    }

    public int sizeOf(int line) throws IndexOutOfBoundsException {
        requireLine(line);
        return sheet.sizeIn(line);
    }

    public int bendOf(int line, int place) throws IndexOutOfBoundsException {
        requireNumber(line, place);
        return Labelling.bendOfPlace(sheet, line, place);
    }

    public int whyNotLabelled(int line, int place) throws IndexOutOfBoundsException {
        requireNumber(line, place);
        return Labelling.reasonAgainst(sheet, line, place);
    }

    public int placesOf(int line) throws IndexOutOfBoundsException {
        requireLine(line);
        return Labelling.countPlaces(sheet, line);
    }

    public int bestPlace(int line) throws IndexOutOfBoundsException {
        requireLine(line);
        return Labelling.best(sheet, line);
    }

    public int tooNear() {
        return Labelling.countPairsTooNear(sheet);
    }

    // ---- within

    public boolean isWithinByRays(int line, int point) throws IndexOutOfBoundsException {
        requireLine(line);
        requirePoint(point);
        return Surroundings.goesRound(sheet, line, point);
    }

    public boolean isWithinBySpreading(int line, int point) throws IndexOutOfBoundsException {
        requireLine(line);
        requirePoint(point);
        if (!sheet.isRing(line)) {
            return false;
        }
        drawing.drawLine(sheet, line);
        drawing.spread();
        return drawing.isLeftOut(point);
    }

    public int pointsWithin(int line) throws IndexOutOfBoundsException {
        requireLine(line);
        int within = 0;
        for (int point = 0; point < POINTS; point++) {
            if (Surroundings.goesRound(sheet, line, point)) {
                within++;
            }
        }
        return within;
    }

    public int lineRound(int line) throws IndexOutOfBoundsException {
        requireLine(line);
        return Surroundings.innermostRound(sheet, line);
    }

    public boolean isSteady(int line) throws IndexOutOfBoundsException {
        requireLine(line);
        int round = Surroundings.innermostRound(sheet, line);
        if (round == NONE) {
            return true;
        }
        return Math.abs(sheet.levelIn(line) - sheet.levelIn(round)) == STEADY_DIFFERENCE;
    }

    public int lineByLevel(int place) throws IndexOutOfBoundsException {
        if (!sheet.hasLine(place)) {
            throw new IndexOutOfBoundsException("there is no such place");
        }
        return sheet.lineOfRank(place);
    }

    // ---- orders as texts

    public int append(int code) throws IllegalArgumentException, IllegalStateException {
        if (code < LEAST_CODE || code > MOST_CODE) {
            throw new IllegalArgumentException("code is out of range");
        }
        if (text.isFull()) {
            throw new IllegalStateException("the buffer has 60 characters");
        }
        text.add(code);
        return text.size();
    }

    public int clearText() {
        int before = text.size();
        text.empty();
        return before;
    }

    public int errorPosition() {
        return text.firstError();
    }

    public int runText() throws IllegalArgumentException {
        if (!text.isValid()) {
            throw new IllegalArgumentException("the buffer is not a valid text");
        }
        history.save(sheet);
        text.rewind();
        int done = 0;
        while (done < OrderText.MOST_SIGNS && text.readNext()) {
            if (!carryOutOrder()) {
                return done;
            }
            done++;
        }
        return done;
    }

    // ---- undo and the snapshot

    public int undo() throws IllegalStateException {
        if (history.size() == 0) {
            throw new IllegalStateException("no state is saved");
        }
        history.giveBack(sheet);
        return history.size();
    }

    public int savedStates() {
        return history.size();
    }

    public int takeSnapshot() {
        history.keepSnapshot(sheet);
        return sheet.lineCount();
    }

    public int restoreSnapshot() throws IllegalStateException {
        if (!history.hasSnapshot()) {
            throw new IllegalStateException("there is no snapshot");
        }
        history.save(sheet);
        history.giveSnapshot(sheet);
        return sheet.lineCount();
    }

    // ---- the orders, each without an exception

    private boolean carryOutOrder() {
        int first = text.firstNumber();
        int second = text.secondNumber();
        switch (text.kind()) {
            case 'n':
                return orderBegin(first, second);
            case 's':
                return orderSteps();
            case 'w':
                return sheet.removeLine(first);
            case 'l':
                return orderLabel(first, second);
            case 'u':
                return orderUnlabel(first);
            case 'b':
                return orderPut(first, Labelling.best(sheet, first));
            case 'a':
                Labelling.setAll(sheet);
                return true;
            case 'g':
                sheet.putGap(first);
                return true;
            default:
                return false;
        }
    }

    private boolean orderBegin(int level, int point) {
        if (!sheet.hasRoomAt(point)) {
            return false;
        }
        sheet.addLine(level, point);
        return true;
    }

    private boolean orderSteps() {
        int line = sheet.lineCount() - 1;
        if (!sheet.hasLine(line)) {
            return false;
        }
        for (int index = 0; index < text.directionCount(); index++) {
            int direction = text.directionAt(index);
            if (sheet.reasonAgainstStep(line, direction) != 0) {
                return false;
            }
            sheet.addStep(line, direction);
        }
        return true;
    }

    private boolean orderLabel(int line, int place) {
        if (!sheet.hasNumber(line, place) || Labelling.reasonAgainst(sheet, line, place) != 0) {
            return false;
        }
        return orderPut(line, place);
    }

    private boolean orderPut(int line, int place) {
        if (!sheet.hasLine(line) || place == NONE) {
            return false;
        }
        sheet.putLabel(line, place);
        return true;
    }

    private boolean orderUnlabel(int line) {
        if (sheet.labelIn(line) == NONE) {
            return false;
        }
        sheet.putLabel(line, NONE);
        return true;
    }

    // ---- what calls require

    private void requireLine(int line) {
        if (!sheet.hasLine(line)) {
            throw new IndexOutOfBoundsException("there is no such line");
        }
    }

    private void requireNumber(int line, int number) {
        if (!sheet.hasNumber(line, number)) {
            throw new IndexOutOfBoundsException("there is no such line or point of the line");
        }
    }

    private static void requirePoint(int point) {
        if (!isOnMap(point)) {
            throw new IndexOutOfBoundsException("there is no such point of the map");
        }
    }

    private static void requireLevel(int level) {
        if (level < 0 || level > MOST_LEVEL) {
            throw new IllegalArgumentException("level is out of range");
        }
    }

    private static void requireDirection(int direction) {
        if (!isDirection(direction)) {
            throw new IllegalArgumentException("direction is out of range");
        }
    }

    // ---- the map

    private static boolean isOnMap(int point) {
        return point >= 0 && point < POINTS;
    }

    private static boolean isDirection(int direction) {
        return direction >= 0 && direction < DIRECTIONS;
    }

    private static boolean isSlanting(int direction) {
        return (direction & 1) != 0;
    }

    private static int columnOf(int point) {
        return point % COLUMNS;
    }

    private static int rowOf(int point) {
        return point / COLUMNS;
    }

    /** The point beside a point, or NONE if the step leaves the map. */
    private static int pointBeside(int point, int direction) {
        if (!isOnMap(point) || !isDirection(direction)) {
            return NONE;
        }
        int column = columnOf(point) + ACROSS[direction];
        int row = rowOf(point) + DOWN[direction];
        if (column < 0 || column >= COLUMNS || row < 0 || row >= ROWS) {
            return NONE;
        }
        return COLUMNS * row + column;
    }

    private static int distance(int one, int other) {
        int across = Math.abs(columnOf(one) - columnOf(other));
        int down = Math.abs(rowOf(one) - rowOf(other));
        return Math.max(across, down);
    }

    // A function, as rule 5 of the language knows no constants of double.
    private static double slantingLength() {
        return 1.4142135623730951;
    }

    /** The state: the lines, their labels and the gap. */
    private static final class Sheet {
        private static final int CLOSED = 1;
        private static final int LONGEST = 2;
        private static final int OFF_THE_MAP = 3;
        private static final int TAKEN = 4;
        private static final int CROSSING = 5;
        private static final int LEAST_RING = 4;
        private static final int ROW_OF_POINTS = 61;
        private static final int LONG_LEVEL = 10;
        private static final int SHORT_SIZE = 2;
        private static final int LONG_SIZE = 3;

        private int count;
        private int gap;
        private final int[] levels;
        private final int[] stepCounts;
        private final int[] labelPlaces;
        private final int[] points;

        Sheet() {
            gap = FIRST_GAP;
            levels = new int[MOST_LINES];
            stepCounts = new int[MOST_LINES];
            labelPlaces = new int[MOST_LINES];
            points = new int[MOST_LINES * ROW_OF_POINTS];
        }

        void copyFrom(Sheet other) {
            count = other.count;
            gap = other.gap;
            System.arraycopy(other.levels, 0, levels, 0, MOST_LINES);
            System.arraycopy(other.stepCounts, 0, stepCounts, 0, MOST_LINES);
            System.arraycopy(other.labelPlaces, 0, labelPlaces, 0, MOST_LINES);
            System.arraycopy(other.points, 0, points, 0, MOST_LINES * ROW_OF_POINTS);
        }

        int lineCount() {
            return count;
        }

        int gapWidth() {
            return gap;
        }

        void putGap(int width) {
            gap = width;
        }

        boolean hasLine(int line) {
            return line >= 0 && line < count;
        }

        boolean hasNumber(int line, int number) {
            return line >= 0 && line < count && number >= 0 && number <= stepCounts[line];
        }

        int levelIn(int line) {
            return line >= 0 && line < count ? levels[line] : NONE;
        }

        int sizeIn(int line) {
            return line >= 0 && line < count && levels[line] >= LONG_LEVEL ? LONG_SIZE : SHORT_SIZE;
        }

        void putLevel(int line, int level) {
            if (line >= 0 && line < count) {
                levels[line] = level;
            }
        }

        int labelIn(int line) {
            return line >= 0 && line < count ? labelPlaces[line] : NONE;
        }

        void putLabel(int line, int place) {
            if (line >= 0 && line < count) {
                labelPlaces[line] = place;
            }
        }

        int labelCount() {
            int labelled = 0;
            for (int line = 0; line < count; line++) {
                if (labelIn(line) != NONE) {
                    labelled++;
                }
            }
            return labelled;
        }

        /** NONE if there is no such line, so that it has no points either. */
        int stepCount(int line) {
            return line >= 0 && line < count ? stepCounts[line] : NONE;
        }

        int pointAt(int line, int number) {
            if (line < 0 || line >= count || number < 0 || number > stepCounts[line]) {
                return NONE;
            }
            return points[line * ROW_OF_POINTS + number];
        }

        /** The direction of the step behind the point with a number, told by its two points. */
        int directionAt(int line, int number) {
            if (line < 0 || line >= count || number < 0 || number >= stepCounts[line]) {
                return NONE;
            }
            int from = line * ROW_OF_POINTS + number;
            switch (points[from + 1] - points[from]) {
                case 1:
                    return 0;
                case COLUMNS + 1:
                    return 1;
                case COLUMNS:
                    return 2;
                case COLUMNS - 1:
                    return 3;
                case -1:
                    return 4;
                case -COLUMNS - 1:
                    return 5;
                case -COLUMNS:
                    return 6;
                default:
                    return 7;
            }
        }

        int lineOn(int point) {
            for (int line = 0; line < count; line++) {
                if (isOn(line, point)) {
                    return line;
                }
            }
            return NONE;
        }

        boolean isOn(int line, int point) {
            int steps = stepCount(line);
            for (int number = 0; number <= steps; number++) {
                if (pointAt(line, number) == point) {
                    return true;
                }
            }
            return false;
        }

        boolean isRing(int line) {
            if (line < 0 || line >= count || stepCounts[line] < LEAST_RING) {
                return false;
            }
            int first = line * ROW_OF_POINTS;
            return points[first + stepCounts[line]] == points[first];
        }

        boolean hasRoomAt(int point) {
            return count < MOST_LINES && lineOn(point) == NONE;
        }

        int addLine(int level, int point) {
            if (count >= MOST_LINES) {
                return NONE;
            }
            int line = count;
            levels[line] = level;
            stepCounts[line] = 0;
            labelPlaces[line] = NONE;
            points[line * ROW_OF_POINTS] = point;
            count++;
            return line;
        }

        void addStep(int line, int direction) {
            int steps = stepCount(line);
            if (steps < 0 || steps >= MOST_STEPS) {
                return;
            }
            points[line * ROW_OF_POINTS + steps + 1] = pointBeside(pointAt(line, steps), direction);
            stepCounts[line] = steps + 1;
        }

        boolean removeLine(int line) {
            if (!hasLine(line)) {
                return false;
            }
            closeUp(levels, line, 1);
            closeUp(stepCounts, line, 1);
            closeUp(labelPlaces, line, 1);
            closeUp(points, line, ROW_OF_POINTS);
            count--;
            return true;
        }

        private void closeUp(int[] rows, int line, int width) {
            System.arraycopy(rows, (line + 1) * width, rows, line * width, (count - line - 1) * width);
        }

        int reasonAgainstStep(int line, int direction) {
            if (isRing(line)) {
                return CLOSED;
            }
            int steps = stepCount(line);
            if (steps >= MOST_STEPS) {
                return LONGEST;
            }
            int from = pointAt(line, steps);
            int to = pointBeside(from, direction);
            if (to == NONE) {
                return OFF_THE_MAP;
            }
            boolean closes = steps + 1 >= LEAST_RING && to == pointAt(line, 0);
            if (!closes && lineOn(to) != NONE) {
                return TAKEN;
            }
            return crosses(from, direction) ? CROSSING : 0;
        }

        /** Whether a slanting step goes between two points that a step joins. */
        private boolean crosses(int from, int direction) {
            if (!isDirection(direction) || !isSlanting(direction)) {
                return false;
            }
            int beside = from + ACROSS[direction];
            int above = from + COLUMNS * DOWN[direction];
            for (int line = 0; line < count; line++) {
                if (joins(line, beside, above)) {
                    return true;
                }
            }
            return false;
        }

        private boolean joins(int line, int one, int other) {
            int steps = stepCount(line);
            for (int number = 0; number < steps; number++) {
                int from = pointAt(line, number);
                int to = pointAt(line, number + 1);
                if ((from == one && to == other) || (from == other && to == one)) {
                    return true;
                }
            }
            return false;
        }

        int bendThere(int line, int number) {
            int before = directionAt(line, number - 1);
            int behind = directionAt(line, number);
            if (isRing(line)) {
                int steps = stepCount(line);
                if (number == 0) {
                    before = directionAt(line, steps - 1);
                } else if (number == steps) {
                    behind = directionAt(line, 0);
                }
            }
            if (before == NONE || behind == NONE) {
                return 0;
            }
            int turn = Math.abs(behind - before);
            return Math.min(turn, DIRECTIONS - turn);
        }

        /** The line with as many lines ahead of it, in the order of levels, as the rank tells. */
        int lineOfRank(int rank) {
            for (int line = 0; line < count; line++) {
                if (countAhead(line) == rank) {
                    return line;
                }
            }
            return NONE;
        }

        private int countAhead(int line) {
            int level = levelIn(line);
            int ahead = 0;
            for (int other = 0; other < count; other++) {
                int otherLevel = levelIn(other);
                if (otherLevel < level || (otherLevel == level && other < line)) {
                    ahead++;
                }
            }
            return ahead;
        }
    }

    /** Places for labels. */
    private static final class Labelling {
        private static final int NO_PLACE = 1;
        private static final int BENT = 2;
        private static final int STANDING = 3;
        private static final int TOO_NEAR = 4;
        private static final int MOST_BEND = 1;
        private static final int FAR = 99;

        private Labelling() {
        }

        /** The number of the last point of a place. */
        static int lastNumber(Sheet sheet, int line, int place) {
            return place + sheet.sizeIn(line) - 1;
        }

        private static boolean isPlace(Sheet sheet, int line, int place) {
            int points = sheet.stepCount(line) + 1;
            if (sheet.isRing(line)) {
                points--;
            }
            return sheet.hasNumber(line, place) && place + sheet.sizeIn(line) <= points;
        }

        static int bendOfPlace(Sheet sheet, int line, int place) {
            if (!isPlace(sheet, line, place)) {
                return NONE;
            }
            int behind = lastNumber(sheet, line, place) + 1;
            int bend = 0;
            for (int number = place - 1; number <= behind; number++) {
                if (sheet.hasNumber(line, number)) {
                    bend += sheet.bendThere(line, number);
                }
            }
            return bend;
        }

        static boolean goesLeft(Sheet sheet, int line, int place) {
            int first = sheet.pointAt(line, place);
            int last = sheet.pointAt(line, lastNumber(sheet, line, place));
            return columnOf(last) < columnOf(first);
        }

        private static boolean stands(Sheet sheet, int line, int place) {
            int first = sheet.pointAt(line, place);
            int last = sheet.pointAt(line, lastNumber(sheet, line, place));
            int down = Math.abs(rowOf(last) - rowOf(first));
            return down > Math.abs(columnOf(last) - columnOf(first));
        }

        static int reasonAgainst(Sheet sheet, int line, int place) {
            int reason = reasonOfShape(sheet, line, place);
            if (reason != 0) {
                return reason;
            }
            return distanceToOthers(sheet, line, place) < sheet.gapWidth() ? TOO_NEAR : 0;
        }

        /** The reason against a place that lies in its line alone. */
        private static int reasonOfShape(Sheet sheet, int line, int place) {
            if (!isPlace(sheet, line, place)) {
                return NO_PLACE;
            }
            if (bendOfPlace(sheet, line, place) > MOST_BEND) {
                return BENT;
            }
            return stands(sheet, line, place) ? STANDING : 0;
        }

        /** How far a place is from the nearest label of another line. */
        private static int distanceToOthers(Sheet sheet, int line, int place) {
            int least = FAR;
            for (int other = 0; other < sheet.lineCount(); other++) {
                if (other != line && sheet.labelIn(other) != NONE) {
                    least = Math.min(least, distanceToLabel(sheet, line, place, other));
                }
            }
            return least;
        }

        private static int distanceToLabel(Sheet sheet, int line, int place, int other) {
            int start = sheet.labelIn(other);
            int last = lastNumber(sheet, line, place);
            int otherLast = lastNumber(sheet, other, start);
            int least = FAR;
            for (int number = place; number <= last; number++) {
                int point = sheet.pointAt(line, number);
                for (int otherNumber = start; otherNumber <= otherLast; otherNumber++) {
                    least = Math.min(least, distance(point, sheet.pointAt(other, otherNumber)));
                }
            }
            return least;
        }

        static int countPlaces(Sheet sheet, int line) {
            int steps = sheet.stepCount(line);
            int places = 0;
            for (int place = 0; place <= steps; place++) {
                if (reasonAgainst(sheet, line, place) == 0) {
                    places++;
                }
            }
            return places;
        }

        static int best(Sheet sheet, int line) {
            int steps = sheet.stepCount(line);
            int best = NONE;
            int leastBend = 0;
            int furthest = 0;
            for (int place = 0; place <= steps; place++) {
                if (reasonOfShape(sheet, line, place) != 0) {
                    continue;
                }
                int bend = bendOfPlace(sheet, line, place);
                int far = distanceToOthers(sheet, line, place);
                boolean better = best == NONE || bend < leastBend || (bend == leastBend && far > furthest);
                if (better && far >= sheet.gapWidth()) {
                    best = place;
                    leastBend = bend;
                    furthest = far;
                }
            }
            return best;
        }

        static void setAll(Sheet sheet) {
            int lines = sheet.lineCount();
            for (int line = 0; line < lines; line++) {
                sheet.putLabel(line, NONE);
            }
            for (int rank = 0; rank < lines; rank++) {
                int line = sheet.lineOfRank(rank);
                sheet.putLabel(line, best(sheet, line));
            }
        }

        static int countPairsTooNear(Sheet sheet) {
            int pairs = 0;
            for (int line = 0; line < sheet.lineCount(); line++) {
                for (int other = line + 1; other < sheet.lineCount(); other++) {
                    if (areTooNear(sheet, line, other)) {
                        pairs++;
                    }
                }
            }
            return pairs;
        }

        private static boolean areTooNear(Sheet sheet, int line, int other) {
            int place = sheet.labelIn(line);
            if (place == NONE || sheet.labelIn(other) == NONE) {
                return false;
            }
            return distanceToLabel(sheet, line, place, other) < sheet.gapWidth();
        }
    }

    /** Points and lines within closed lines. */
    private static final class Surroundings {
        private Surroundings() {
        }

        static boolean goesRound(Sheet sheet, int line, int point) {
            if (!sheet.isRing(line) || sheet.isOn(line, point)) {
                return false;
            }
            return (stepsToTheRight(sheet, line, point) & 1) != 0;
        }

        // Only steps down from the row of the point, or up to it, count: the ray lies a little
        // below the row, so that no point of the line is on it.
        private static int stepsToTheRight(Sheet sheet, int line, int point) {
            int row = rowOf(point);
            int column = columnOf(point);
            int steps = sheet.stepCount(line);
            int passed = 0;
            for (int number = 0; number < steps; number++) {
                int one = sheet.pointAt(line, number);
                int other = sheet.pointAt(line, number + 1);
                int upper = rowOf(one) < rowOf(other) ? one : other;
                boolean passes = rowOf(upper) == row && rowOf(one) != rowOf(other);
                if (passes && columnOf(upper) > column) {
                    passed++;
                }
            }
            return passed;
        }

        // Lines never cross, so the closed lines round a point lie one within the other.
        static int innermostRound(Sheet sheet, int line) {
            int start = sheet.pointAt(line, 0);
            int innermost = NONE;
            for (int other = 0; other < sheet.lineCount(); other++) {
                if (goesRound(sheet, other, start)
                        && (innermost == NONE || goesRound(sheet, innermost, sheet.pointAt(other, 0)))) {
                    innermost = other;
                }
            }
            return innermost;
        }
    }

    /**
     * A closed line, drawn three times as large, with a margin round the map. Points alone are too
     * coarse to spread over: between two steps side by side there is room, but no point. Three times
     * as large there are free dots between any two steps that do not touch.
     */
    private static final class Drawing {
        private static final int SCALE = 3;
        private static final int WIDTH = 72;
        private static final int HEIGHT = 48;
        private static final int DOTS = WIDTH * HEIGHT;
        private static final int FREE = 0;
        private static final int DRAWN = 1;
        private static final int REACHED = 2;

        private final int[] dots;
        private final int[] waiting;
        private int waitingCount;

        Drawing() {
            dots = new int[DOTS];
            waiting = new int[DOTS];
        }

        private static int dotOf(int point) {
            return (SCALE * rowOf(point) + 1) * WIDTH + SCALE * columnOf(point) + 1;
        }

        private static boolean isDot(int dot) {
            return dot >= 0 && dot < DOTS;
        }

        void drawLine(Sheet sheet, int line) {
            for (int dot = 0; dot < DOTS; dot++) {
                dots[dot] = FREE;
            }
            int steps = sheet.stepCount(line);
            for (int number = 0; number < steps; number++) {
                drawStep(dotOf(sheet.pointAt(line, number)), sheet.directionAt(line, number));
            }
        }

        private void drawStep(int from, int direction) {
            if (!isDirection(direction)) {
                return;
            }
            int onward = DOWN[direction] * WIDTH + ACROSS[direction];
            for (int part = 0; part < SCALE; part++) {
                int dot = from + part * onward;
                if (isDot(dot)) {
                    dots[dot] = DRAWN;
                }
            }
        }

        /** Spreads from the margin over all dots that it reaches without a step in the way. */
        void spread() {
            waitingCount = 0;
            reach(0);
            for (int next = 0; next < waitingCount && next < DOTS; next++) {
                int dot = waiting[next];
                int column = dot % WIDTH;
                if (column > 0) {
                    reach(dot - 1);
                }
                if (column < WIDTH - 1) {
                    reach(dot + 1);
                }
                reach(dot - WIDTH);
                reach(dot + WIDTH);
            }
        }

        private void reach(int dot) {
            if (isDot(dot) && dots[dot] == FREE && waitingCount < DOTS) {
                dots[dot] = REACHED;
                waiting[waitingCount] = dot;
                waitingCount++;
            }
        }

        boolean isLeftOut(int point) {
            int dot = dotOf(point);
            return isDot(dot) && dots[dot] == FREE;
        }
    }

    /** The text buffer, and a reader that goes over its orders. */
    private static final class OrderText {
        static final int MOST_SIGNS = 60;
        private static final int MOST_DIRECTIONS = 20;
        private static final int MOST_PLACE = 59;
        private static final int MOST_DIGITS = 3;

        private final int[] signs;
        private int length;
        private int cursor;
        private int kind;
        private int first;
        private int second;
        private int directionsFrom;
        private int directionCount;

        OrderText() {
            signs = new int[MOST_SIGNS];
        }

        int size() {
            return length;
        }

        boolean isFull() {
            return length >= MOST_SIGNS;
        }

        void add(int code) {
            if (!isFull()) {
                signs[length] = code;
                length++;
            }
        }

        void empty() {
            length = 0;
        }

        int kind() {
            return kind;
        }

        int firstNumber() {
            return first;
        }

        int secondNumber() {
            return second;
        }

        int directionCount() {
            return directionCount;
        }

        int directionAt(int index) {
            return digitAt(directionsFrom + index);
        }

        boolean isValid() {
            rewind();
            for (int orders = 0; orders < MOST_SIGNS && readNext(); orders++) {
                if (cursor == length) {
                    return true;
                }
            }
            return false;
        }

        // The reader stops ahead of the first sign that fits nowhere, or at the end.
        int firstError() {
            isValid();
            return cursor;
        }

        void rewind() {
            cursor = 0;
        }

        /** Reads the next order, with the ";" ahead of it if it is not the first one. */
        boolean readNext() {
            if (cursor > 0 && !pass(';')) {
                return false;
            }
            kind = signAt(cursor);
            switch (kind) {
                case 'n':
                    return pass('n') && readFirst(0, MOST_LEVEL) && pass('@') && readSecond(POINTS - 1);
                case 's':
                    return pass('s') && readDirections();
                case 'l':
                    return pass('l') && readFirst(0, MOST_LINES - 1) && pass('.') && readSecond(MOST_PLACE);
                case 'w':
                case 'u':
                case 'b':
                    return pass(kind) && readFirst(0, MOST_LINES - 1);
                case 'g':
                    return pass('g') && readFirst(LEAST_GAP, MOST_GAP);
                case 'a':
                    return pass('a');
                default:
                    return false;
            }
        }

        private int signAt(int index) {
            return index >= 0 && index < length && index < MOST_SIGNS ? signs[index] : NONE;
        }

        private int digitAt(int index) {
            int sign = signAt(index);
            return sign >= '0' && sign <= '9' ? sign - '0' : NONE;
        }

        private boolean pass(int sign) {
            if (signAt(cursor) != sign) {
                return false;
            }
            cursor++;
            return true;
        }

        private boolean readFirst(int least, int most) {
            first = readNumber(least, most);
            return first != NONE;
        }

        private boolean readSecond(int most) {
            second = readNumber(0, most);
            return second != NONE;
        }

        /** Reads as many digits as a number in the range has; NONE if it cannot begin here. */
        private int readNumber(int least, int most) {
            int number = digitAt(cursor);
            if (number == NONE || number < least || number > most) {
                return NONE;
            }
            cursor++;
            for (int digits = 1; digits < MOST_DIGITS; digits++) {
                int digit = digitAt(cursor);
                // A digit behind a 0 would make it a leading zero.
                if (number == 0 || digit == NONE || number * 10 + digit > most) {
                    return number;
                }
                number = number * 10 + digit;
                cursor++;
            }
            return number;
        }

        private boolean readDirections() {
            directionsFrom = cursor;
            directionCount = 0;
            while (directionCount < MOST_DIRECTIONS && isDirection(digitAt(cursor))) {
                directionCount++;
                cursor++;
            }
            return directionCount > 0;
        }
    }

    /** The saved states, in a ring from the oldest one on, and the snapshot. */
    private static final class History {
        private static final int MOST_SAVED = 5;

        private final Sheet[] saved;
        private int oldest;
        private int savedCount;
        private final Sheet snapshot;
        private boolean isTaken;

        History() {
            saved = new Sheet[MOST_SAVED];
            for (int index = 0; index < MOST_SAVED; index++) {
                saved[index] = new Sheet();
            }
            snapshot = new Sheet();
        }

        int size() {
            return savedCount;
        }

        void save(Sheet sheet) {
            if (savedCount == MOST_SAVED) {
                oldest = (oldest + 1) % MOST_SAVED;
                savedCount--;
            }
            copy(sheet, savedAt(savedCount));
            savedCount++;
        }

        void giveBack(Sheet sheet) {
            if (savedCount > 0) {
                savedCount--;
                copy(savedAt(savedCount), sheet);
            }
        }

        private Sheet savedAt(int age) {
            return saved[(oldest + age) % MOST_SAVED];
        }

        private static void copy(Sheet from, Sheet to) {
            if (from != null && to != null) {
                to.copyFrom(from);
            }
        }

        boolean hasSnapshot() {
            return isTaken;
        }

        void keepSnapshot(Sheet sheet) {
            copy(sheet, snapshot);
            isTaken = true;
        }

        void giveSnapshot(Sheet sheet) {
            if (isTaken) {
                copy(snapshot, sheet);
            }
        }
    }
}
