import java.util.ArrayList;
import java.util.Arrays;
import java.util.Comparator;
import java.util.List;
import java.util.Random;
import java.util.regex.Matcher;
import java.util.regex.Pattern;

/** Long runs of calls, compared with a plain model that tells everything another way. */
public final class ModelTest {
    private static final int RUNS = 1500;
    private static final int CALLS = 512;
    private static final String[] RINGS = {"0246", "02446" + "0", "000222444666", "222000666444", "1357", "113355" + "77",
        "0123456" + "7", "00112233445566" + "77", "0000022222444446666" + "6", "6665444322210007", "70123456",
        "0000000022222222444444446666666" + "6", "00000000000022222222224444444444446666666666",
        "4222200006666442022" + "44666", "4117755" + "2135"};

    private interface Call {
        Object answer();
    }

    private static final class PlainLine {
        int level;
        int place = -1;
        List<int[]> points = new ArrayList<>();

        PlainLine copy() {
            PlainLine other = new PlainLine();
            other.level = level;
            other.place = place;
            other.points.addAll(points);
            return other;
        }

        int steps() {
            return points.size() - 1;
        }

        boolean closed() {
            return steps() > 0 && Arrays.equals(points.get(0), points.get(steps()));
        }

        long turn(int number) {
            int before = number - 1;
            int behind = number + 1;
            if (closed() && (number == 0 || number == steps())) {
                before = steps() - 1;
                behind = 1;
            }
            if (before < 0 || behind > steps()) {
                return 0;
            }
            double in = angle(points.get(before), points.get(number));
            double out = angle(points.get(number), points.get(behind));
            long eighths = Math.round(Math.abs(out - in) / (Math.PI / 4));
            return eighths > 4 ? 8 - eighths : eighths;
        }

        private static double angle(int[] from, int[] to) {
            return Math.atan2(to[1] - from[1], to[0] - from[0]);
        }

        int size() {
            return level < 10 ? 2 : 3;
        }

        List<int[]> placePoints(int start) {
            int end = closed() ? points.size() - 1 : points.size();
            return start + size() > end ? null : points.subList(start, start + size());
        }

        long bend(int start) {
            if (placePoints(start) == null) {
                return -1;
            }
            long sum = 0;
            for (int number = 0; number <= steps(); number++) {
                sum += number >= start - 1 && number <= start + size() ? turn(number) : 0;
            }
            return sum;
        }

        // How often the line winds round a point, which is not on it.
        boolean winds(int[] point) {
            int winding = 0;
            for (int number = 0; number < steps(); number++) {
                int[] a = points.get(number);
                int[] b = points.get(number + 1);
                int side = (b[0] - a[0]) * (point[1] - a[1]) - (point[0] - a[0]) * (b[1] - a[1]);
                if (a[1] <= point[1] && b[1] > point[1] && side > 0) {
                    winding++;
                } else if (a[1] > point[1] && b[1] <= point[1] && side < 0) {
                    winding--;
                }
            }
            return winding != 0;
        }

        boolean has(int[] point) {
            return points.stream().anyMatch(other -> Arrays.equals(other, point));
        }
    }

    private static final class PlainState {
        List<PlainLine> lines = new ArrayList<>();
        int gap = 2;

        PlainState copy() {
            PlainState other = new PlainState();
            other.gap = gap;
            for (PlainLine line : lines) {
                other.lines.add(line.copy());
            }
            return other;
        }
    }

    private static final class PlainModel {
        private static final Pattern ORDERS;
        private static final int[][] WAYS = {{1, 0}, {1, 1}, {0, 1}, {-1, 1}, {-1, 0}, {-1, -1}, {0, -1}, {1, -1}};

        static {
            String point = "(?:[0-9]|[1-9][0-9]|[12][0-9][0-9]|3[0-7][0-9]|38[0-3])";
            String order = "(?:n(?:[0-9]|[1-9][0-9])@" + point + "|s[0-7]{1,20}|[wub][0-7]|l[0-7]\\.(?:[0-9]|[1-5][0-9])"
                    + "|a|g[1-6])";
            ORDERS = Pattern.compile(order + "(?:;" + order + ")*");
        }

        PlainState now = new PlainState();
        List<PlainState> saved = new ArrayList<>();
        PlainState snapshot;
        String buffer = "";

        private void save() {
            saved.add(now.copy());
            if (saved.size() > 5) {
                saved.remove(0);
            }
        }

        private PlainLine line(int line) {
            if (line < 0 || line >= now.lines.size()) {
                throw new IndexOutOfBoundsException();
            }
            return now.lines.get(line);
        }

        private PlainLine line(int line, int number) {
            if (number < 0 || number > line(line).steps()) {
                throw new IndexOutOfBoundsException();
            }
            return line(line);
        }

        private static int[] at(int point) {
            if (point < 0 || point > 383) {
                throw new IndexOutOfBoundsException();
            }
            return new int[] {point % 24, point / 24};
        }

        private static void range(int value, int least, int most) {
            if (value < least || value > most) {
                throw new IllegalArgumentException();
            }
        }

        private static void state(boolean holds) {
            if (!holds) {
                throw new IllegalStateException();
            }
        }

        int begin(int level, int point) {
            int[] there = at(point);
            range(level, 0, 99);
            state(now.lines.size() < 8 && lineAt(point) == -1);
            save();
            PlainLine line = new PlainLine();
            line.level = level;
            line.points.add(there);
            now.lines.add(line);
            return now.lines.size() - 1;
        }

        boolean step(int line, int direction) {
            state(whyNotStepped(line, direction) == 0);
            save();
            PlainLine it = line(line);
            int[] last = it.points.get(it.steps());
            it.points.add(new int[] {last[0] + WAYS[direction][0], last[1] + WAYS[direction][1]});
            return it.closed();
        }

        int wipe(int line) {
            line(line);
            save();
            now.lines.remove(line);
            return now.lines.size();
        }

        int setLevel(int line, int level) {
            line(line);
            range(level, 0, 99);
            save();
            int before = line(line).level;
            line(line).level = level;
            line(line).place = -1;
            return before;
        }

        long label(int line, int place) {
            state(whyNotLabelled(line, place) == 0);
            save();
            line(line).place = place;
            return line(line).bend(place);
        }

        int unlabel(int line) {
            int before = line(line).place;
            state(before != -1);
            save();
            line(line).place = -1;
            return before;
        }

        int labelBest(int line) {
            int place = bestPlace(line);
            state(place != -1);
            save();
            line(line).place = place;
            return place;
        }

        int labelAll() {
            save();
            now.lines.forEach(line -> line.place = -1);
            for (int line : order()) {
                line(line).place = bestPlace(line);
            }
            return labels();
        }

        int setGap(int gap) {
            range(gap, 1, 6);
            save();
            int before = now.gap;
            now.gap = gap;
            return before;
        }

        int lineAt(int point) {
            int[] there = at(point);
            for (int line = 0; line < now.lines.size(); line++) {
                if (line(line).has(there)) {
                    return line;
                }
            }
            return -1;
        }

        int whyNotStepped(int line, int direction) {
            PlainLine it = line(line);
            range(direction, 0, 7);
            int[] from = it.points.get(it.steps());
            int[] to = {from[0] + WAYS[direction][0], from[1] + WAYS[direction][1]};
            if (it.closed()) {
                return 1;
            }
            if (it.steps() == 60) {
                return 2;
            }
            if (to[0] < 0 || to[0] > 23 || to[1] < 0 || to[1] > 15) {
                return 3;
            }
            boolean closing = it.steps() >= 3 && Arrays.equals(to, it.points.get(0));
            if (!closing && lineAt(24 * to[1] + to[0]) != -1) {
                return 4;
            }
            for (PlainLine other : now.lines) {
                for (int number = 0; number < other.steps(); number++) {
                    int[] a = other.points.get(number);
                    int[] b = other.points.get(number + 1);
                    // Two steps that cross have the same middle, but other ends.
                    boolean sameMiddle = a[0] + b[0] == from[0] + to[0] && a[1] + b[1] == from[1] + to[1];
                    if (sameMiddle && !Arrays.equals(a, from) && !Arrays.equals(b, from)) {
                        return 5;
                    }
                }
            }
            return 0;
        }

        double lengthByKinds(int line) {
            PlainLine it = line(line);
            int slanting = 0;
            for (int number = 0; number < it.steps(); number++) {
                slanting += slants(it, number) ? 1 : 0;
            }
            return (double) (it.steps() - slanting) + (double) slanting * 1.4142135623730951;
        }

        double lengthBySteps(int line) {
            PlainLine it = line(line);
            double length = 0.0;
            for (int number = 0; number < it.steps(); number++) {
                length = length + (slants(it, number) ? 1.4142135623730951 : 1.0);
            }
            return length;
        }

        private static boolean slants(PlainLine line, int number) {
            int[] a = line.points.get(number);
            int[] b = line.points.get(number + 1);
            return a[0] != b[0] && a[1] != b[1];
        }

        int labels() {
            return (int) now.lines.stream().filter(line -> line.place != -1).count();
        }

        boolean isTurned(int line) {
            PlainLine it = line(line);
            if (it.place == -1) {
                return false;
            }
            List<int[]> points = it.placePoints(it.place);
            return points.get(points.size() - 1)[0] < points.get(0)[0];
        }

        int readFrom(int line) {
            PlainLine it = line(line);
            if (it.place == -1) {
                return -1;
            }
            List<int[]> points = it.placePoints(it.place);
            int[] from = points.get(isTurned(line) ? points.size() - 1 : 0);
            return 24 * from[1] + from[0];
        }

        private static int apart(List<int[]> one, List<int[]> other) {
            int least = 99;
            for (int[] a : one) {
                for (int[] b : other) {
                    least = Math.min(least, Math.max(Math.abs(a[0] - b[0]), Math.abs(a[1] - b[1])));
                }
            }
            return least;
        }

        private int free(int line, int place) {
            int least = 99;
            for (PlainLine other : now.lines) {
                if (other != line(line) && other.place != -1) {
                    least = Math.min(least, apart(line(line).placePoints(place), other.placePoints(other.place)));
                }
            }
            return least;
        }

        int whyNotLabelled(int line, int place) {
            PlainLine it = line(line, place);
            List<int[]> points = it.placePoints(place);
            if (points == null) {
                return 1;
            }
            if (it.bend(place) > 1) {
                return 2;
            }
            int[] first = points.get(0);
            int[] last = points.get(points.size() - 1);
            if (Math.abs(first[1] - last[1]) > Math.abs(first[0] - last[0])) {
                return 3;
            }
            return free(line, place) < now.gap ? 4 : 0;
        }

        private List<Integer> places(int line) {
            List<Integer> places = new ArrayList<>();
            for (int place = 0; place <= line(line).steps(); place++) {
                if (whyNotLabelled(line, place) == 0) {
                    places.add(place);
                }
            }
            return places;
        }

        int bestPlace(int line) {
            List<Integer> places = places(line);
            places.sort(Comparator.<Integer>comparingLong(place -> line(line).bend(place))
                    .thenComparingInt(place -> -free(line, place)).thenComparingInt(place -> place));
            return places.isEmpty() ? -1 : places.get(0);
        }

        int tooNear() {
            int pairs = 0;
            for (PlainLine one : now.lines) {
                for (PlainLine other : now.lines) {
                    if (one != other && one.place != -1 && other.place != -1
                            && apart(one.placePoints(one.place), other.placePoints(other.place)) < now.gap) {
                        pairs++;
                    }
                }
            }
            return pairs / 2;
        }

        boolean isWithin(int line, int point) {
            PlainLine it = line(line);
            int[] there = at(point);
            return it.closed() && !it.has(there) && it.winds(there);
        }

        int pointsWithin(int line) {
            int within = 0;
            for (int point = 0; point < 384; point++) {
                within += isWithin(line, point) ? 1 : 0;
            }
            return within;
        }

        int lineRound(int line) {
            List<Integer> round = new ArrayList<>();
            for (int other = 0; other < now.lines.size(); other++) {
                int[] start = line(line).points.get(0);
                if (isWithin(other, 24 * start[1] + start[0])) {
                    round.add(other);
                }
            }
            for (int one : round) {
                int[] start = line(one).points.get(0);
                boolean innermost = true;
                for (int other : round) {
                    innermost &= other == one || isWithin(other, 24 * start[1] + start[0]);
                }
                if (innermost) {
                    return one;
                }
            }
            line(line);
            return -1;
        }

        boolean isSteady(int line) {
            int round = lineRound(line);
            int difference = round == -1 ? 5 : line(line).level - line(round).level;
            return difference == 5 || difference == -5;
        }

        private List<Integer> order() {
            List<Integer> order = new ArrayList<>();
            for (int line = 0; line < now.lines.size(); line++) {
                order.add(line);
            }
            order.sort(Comparator.comparingInt(line -> now.lines.get(line).level));
            return order;
        }

        int lineByLevel(int place) {
            return order().get(place);
        }

        int append(int code) {
            range(code, 32, 126);
            state(buffer.length() < 60);
            buffer += (char) code;
            return buffer.length();
        }

        int clearText() {
            int before = buffer.length();
            buffer = "";
            return before;
        }

        int errorPosition() {
            for (int length = 1; length <= buffer.length(); length++) {
                Matcher matcher = ORDERS.matcher(buffer.substring(0, length));
                if (!matcher.matches() && !matcher.hitEnd()) {
                    return length - 1;
                }
            }
            return buffer.length();
        }

        int runText() {
            if (!ORDERS.matcher(buffer).matches()) {
                throw new IllegalArgumentException();
            }
            List<PlainState> before = new ArrayList<>(saved);
            before.add(now.copy());
            int done = 0;
            try {
                for (String order : buffer.split(";")) {
                    run(order);
                    done++;
                }
            } catch (IndexOutOfBoundsException | IllegalStateException e) {
                // The order is not possible: the ones ahead of it stand.
            }
            saved = before.size() > 5 ? before.subList(1, 6) : before;
            saved = new ArrayList<>(saved);
            return done;
        }

        private void run(String order) {
            String rest = order.substring(1);
            switch (order.charAt(0)) {
                case 'n' -> begin(Integer.parseInt(rest.split("@")[0]), Integer.parseInt(rest.split("@")[1]));
                case 's' -> rest.chars().forEach(digit -> step(now.lines.size() - 1, digit - '0'));
                case 'w' -> wipe(Integer.parseInt(rest));
                case 'l' -> label(Integer.parseInt(rest.split("\\.")[0]), Integer.parseInt(rest.split("\\.")[1]));
                case 'u' -> unlabel(Integer.parseInt(rest));
                case 'b' -> labelBest(Integer.parseInt(rest));
                case 'a' -> labelAll();
                default -> setGap(Integer.parseInt(rest));
            }
        }

        int undo() {
            state(!saved.isEmpty());
            now = saved.remove(saved.size() - 1);
            return saved.size();
        }

        int takeSnapshot() {
            snapshot = now.copy();
            return now.lines.size();
        }

        int restoreSnapshot() {
            state(snapshot != null);
            save();
            now = snapshot.copy();
            return now.lines.size();
        }
    }

    private final Random random;
    private final ContourLabels x = new ContourLabels();
    private final PlainModel m = new PlainModel();
    private final StringBuilder log = new StringBuilder();
    private final int left;
    private final int top;
    private int calls = 0;
    private boolean wrong = false;

    private ModelTest(int seed) {
        random = new Random(seed);
        left = roll(14);
        top = roll(9);
    }

    public static void main(String[] args) {
        int wrongRuns = 0;
        for (int seed = 0; seed < RUNS && wrongRuns < 5; seed++) {
            ModelTest test = new ModelTest(seed);
            test.run();
            if (test.wrong) {
                wrongRuns++;
                System.out.println("run " + seed + ":" + test.log);
            }
        }
        wrongRuns += pockets();
        System.out.println(wrongRuns == 0 ? "the class and the model agree" : wrongRuns + " runs differ");
        if (wrongRuns != 0) {
            System.exit(1);
        }
    }

    private static String outcome(Call call) {
        try {
            return String.valueOf(call.answer());
        } catch (RuntimeException e) {
            return e.getClass().getSimpleName();
        }
    }

    private void same(String what, Call its, Call due) {
        if (wrong || calls >= CALLS) {
            return;
        }
        calls++;
        String got = outcome(its);
        String want = outcome(due);
        log.append("\n  ").append(what).append(" answered ").append(got);
        if (!got.equals(want)) {
            wrong = true;
            log.append(", due is ").append(want);
        }
    }

    private int roll(int bound) {
        return random.nextInt(bound);
    }

    private int anyLine() {
        int lines = m.now.lines.size();
        return roll(12) == 0 ? roll(11) - 1 : lines == 0 ? 0 : roll(lines);
    }

    private int anyNumber(int line) {
        boolean known = line >= 0 && line < m.now.lines.size();
        return roll(12) == 0 || !known ? roll(64) - 1 : roll(m.now.lines.get(line).points.size());
    }

    private int anyPoint() {
        if (roll(15) == 0) {
            return roll(420) - 20;
        }
        return 24 * (top + roll(16 - top)) + left + roll(24 - left);
    }

    // A point of a part of the map, so that lines and labels come near to one another.
    private int nearPoint() {
        return roll(6) == 0 ? anyPoint() : 24 * (top + roll(7)) + left + roll(10);
    }

    private int anyLevel() {
        return roll(15) == 0 ? roll(110) - 5 : 5 * roll(5) + roll(2) * roll(3);
    }

    private void run() {
        while (calls < CALLS && !wrong) {
            switch (roll(40)) {
                case 0, 1 -> draw();
                case 2 -> nest();
                case 3 -> crowd();
                case 4, 5, 6 -> wander();
                case 7, 8, 9, 10, 11, 12, 13 -> labelSome();
                case 14 -> write();
                case 15, 16 -> goBack();
                default -> ask();
            }
        }
    }

    private void begin(int point) {
        int level = anyLevel();
        same("begin(" + level + ", " + point + ")", () -> x.begin(level, point), () -> m.begin(level, point));
    }

    // Two or three closed lines, one within the other, and a line within them, in any order.
    private void nest() {
        int column = left + 4;
        int row = top + 3;
        for (int most = 2 + roll(3); most > 0; most--) {
            int half = roll(4);
            begin(24 * (row - half) + column - half);
            String side = String.valueOf(roll(5) == 0 ? 1 : 0).repeat(2 * half);
            for (int turn = 0; turn < 4; turn++) {
                for (char digit : side.toCharArray()) {
                    step(m.now.lines.size() - 1, (digit - '0' + 2 * turn) % 8);
                }
            }
        }
        for (int line = 0; line < m.now.lines.size(); line++) {
            int here = line;
            same("lineRound(" + here + ")", () -> x.lineRound(here), () -> m.lineRound(here));
            same("isSteady(" + here + ")", () -> x.isSteady(here), () -> m.isSteady(here));
            same("pointsWithin(" + here + ")", () -> x.pointsWithin(here), () -> m.pointsWithin(here));
            askWithin(here, nearPoint());
        }
    }

    // Short lines near to one another, with labels, and wide gaps.
    private void crowd() {
        for (int more = 1 + roll(5); more > 0; more--) {
            begin(nearPoint());
            int line = m.now.lines.size() - 1;
            int direction = new int[] {0, 4, 1, 5}[roll(4)];
            for (int steps = 1 + roll(5); steps > 0; steps--) {
                step(line, direction);
            }
            same("bestPlace(" + line + ")", () -> x.bestPlace(line), () -> m.bestPlace(line));
            same("labelBest(" + line + ")", () -> x.labelBest(line), () -> m.labelBest(line));
        }
        int gap = 1 + roll(6);
        same("setGap(" + gap + ")", () -> x.setGap(gap), () -> m.setGap(gap));
        same("tooNear()", x::tooNear, m::tooNear);
        for (int line = 0; line < m.now.lines.size(); line++) {
            int here = line;
            int number = anyNumber(here);
            same("placesOf(" + here + ")", () -> x.placesOf(here), () -> m.places(here).size());
            same("bestPlace(" + here + ")", () -> x.bestPlace(here), () -> m.bestPlace(here));
            same("whyNotLabelled(" + here + ", " + number + ")", () -> x.whyNotLabelled(here, number),
                    () -> m.whyNotLabelled(here, number));
        }
    }

    private void draw() {
        begin(nearPoint());
        if (roll(2) == 0) {
            String ring = RINGS[roll(RINGS.length)];
            int turned = 2 * roll(4);
            for (char digit : ring.toCharArray()) {
                step(m.now.lines.size() - 1, (digit - '0' + turned) % 8);
            }
        }
    }

    private void step(int line, int direction) {
        same("step(" + line + ", " + direction + ")", () -> x.step(line, direction), () -> m.step(line, direction));
    }

    private void wander() {
        int line = anyLine();
        int direction = roll(8);
        for (int step = roll(14); step > 0; step--) {
            direction = roll(3) == 0 ? (direction + roll(3) + 7) % 8 : direction;
            int here = roll(60) == 0 ? roll(12) - 2 : direction;
            if (roll(3) == 0) {
                same("whyNotStepped(" + line + ", " + here + ")", () -> x.whyNotStepped(line, here),
                        () -> m.whyNotStepped(line, here));
            }
            step(line, here);
        }
    }

    private void labelSome() {
        int line = anyLine();
        int number = anyNumber(line);
        int level = anyLevel();
        int gap = roll(10) == 0 ? roll(10) - 2 : 1 + roll(3);
        switch (roll(8)) {
            case 0, 1 -> same("label(" + line + ", " + number + ")", () -> x.label(line, number),
                    () -> m.label(line, number));
            case 2, 3 -> same("labelBest(" + line + ")", () -> x.labelBest(line), () -> m.labelBest(line));
            case 4 -> same("labelAll()", x::labelAll, m::labelAll);
            case 5 -> same("unlabel(" + line + ")", () -> x.unlabel(line), () -> m.unlabel(line));
            case 6 -> same("setGap(" + gap + ")", () -> x.setGap(gap), () -> m.setGap(gap));
            default -> same("setLevel(" + line + ", " + level + ")", () -> x.setLevel(line, level),
                    () -> m.setLevel(line, level));
        }
        same("tooNear()", x::tooNear, m::tooNear);
    }

    private String anyOrder() {
        String digits = "";
        for (int count = 1 + roll(roll(8) == 0 ? 22 : 5); count > 0; count--) {
            digits += roll(7) == 0 ? roll(10) : roll(2) * 2;
        }
        return switch (roll(9)) {
            case 0, 1 -> "n" + Math.max(0, anyLevel()) + "@" + Math.max(0, nearPoint());
            case 2, 3 -> "s" + digits;
            case 4 -> "l" + Math.max(0, anyLine()) + "." + roll(roll(5) == 0 ? 65 : 8);
            case 5 -> "u" + Math.max(0, anyLine());
            case 6 -> "b" + Math.max(0, anyLine());
            case 7 -> roll(2) == 0 ? "a" : "g" + roll(roll(3) == 0 ? 9 : 4);
            default -> "w" + Math.max(0, anyLine());
        };
    }

    private void write() {
        StringBuilder text = new StringBuilder(anyOrder());
        for (int more = roll(8); more > 0; more--) {
            text.append(';').append(anyOrder());
        }
        if (roll(3) == 0) {
            String signs = "nswlubag;@.0123456789 x";
            text.setCharAt(roll(text.length()), signs.charAt(roll(signs.length())));
        }
        if (roll(4) == 0) {
            text.setLength(1 + roll(text.length()));
        }
        if (roll(4) != 0) {
            same("clearText()", x::clearText, m::clearText);
        }
        boolean askOften = roll(4) == 0;
        for (char sign : text.toString().toCharArray()) {
            int code = roll(300) == 0 ? roll(200) - 20 : sign;
            same("append(" + code + ")", () -> x.append(code), () -> m.append(code));
            if (askOften) {
                same("errorPosition()", x::errorPosition, m::errorPosition);
            }
        }
        same("errorPosition()", x::errorPosition, m::errorPosition);
        same("runText()", x::runText, m::runText);
        look();
    }

    private void goBack() {
        int line = anyLine();
        switch (roll(7)) {
            case 0 -> same("wipe(" + line + ")", () -> x.wipe(line), () -> m.wipe(line));
            case 1 -> same("takeSnapshot()", x::takeSnapshot, m::takeSnapshot);
            case 2 -> same("restoreSnapshot()", x::restoreSnapshot, m::restoreSnapshot);
            default -> same("undo()", x::undo, m::undo);
        }
        look();
    }

    private void look() {
        same("lines()", x::lines, () -> m.now.lines.size());
        same("gap()", x::gap, () -> m.now.gap);
        same("labels()", x::labels, m::labels);
        same("savedStates()", x::savedStates, m.saved::size);
        for (int line = 0; line < m.now.lines.size(); line++) {
            int here = line;
            same("levelOf(" + line + ")", () -> x.levelOf(here), () -> m.line(here).level);
            same("labelOf(" + line + ")", () -> x.labelOf(here), () -> m.line(here).place);
            same("stepsOf(" + line + ")", () -> x.stepsOf(here), () -> m.line(here).steps());
        }
    }

    private void ask() {
        int line = anyLine();
        int number = anyNumber(line);
        int point = nearPoint();
        int direction = roll(10) - 1;
        String only = "(" + line + ")";
        String both = "(" + line + ", " + number + ")";
        switch (roll(24)) {
            case 0 -> same("levelOf" + only, () -> x.levelOf(line), () -> m.line(line).level);
            case 1 -> same("stepsOf" + only, () -> x.stepsOf(line), () -> m.line(line).steps());
            case 2 -> same("pointOf" + both, () -> x.pointOf(line, number), () -> {
                int[] there = m.line(line, number).points.get(number);
                return 24 * there[1] + there[0];
            });
            case 3 -> same("lineAt(" + point + ")", () -> x.lineAt(point), () -> m.lineAt(point));
            case 4 -> same("isClosed" + only, () -> x.isClosed(line), () -> m.line(line).closed());
            case 5 -> same("whyNotStepped(" + line + ", " + direction + ")", () -> x.whyNotStepped(line, direction),
                    () -> m.whyNotStepped(line, direction));
            case 6 -> same("bendAt" + both, () -> x.bendAt(line, number), () -> m.line(line, number).turn(number));
            case 7 -> same("lengthByKinds" + only, () -> x.lengthByKinds(line), () -> m.lengthByKinds(line));
            case 8 -> same("lengthBySteps" + only, () -> x.lengthBySteps(line), () -> m.lengthBySteps(line));
            case 9 -> same("labelOf" + only, () -> x.labelOf(line), () -> m.line(line).place);
            case 10 -> same("isTurned" + only, () -> x.isTurned(line), () -> m.isTurned(line));
            case 11 -> same("readFrom" + only, () -> x.readFrom(line), () -> m.readFrom(line));
            case 12 -> same("sizeOf" + only, () -> x.sizeOf(line), () -> m.line(line).size());
            case 13 -> same("bendOf" + both, () -> x.bendOf(line, number), () -> m.line(line, number).bend(number));
            case 14 -> same("whyNotLabelled" + both, () -> x.whyNotLabelled(line, number),
                    () -> m.whyNotLabelled(line, number));
            case 15 -> same("placesOf" + only, () -> x.placesOf(line), () -> m.places(line).size());
            case 16 -> same("bestPlace" + only, () -> x.bestPlace(line), () -> m.bestPlace(line));
            case 17, 22, 23 -> askWithin(line, point);
            case 18 -> same("pointsWithin" + only, () -> x.pointsWithin(line), () -> m.pointsWithin(line));
            case 19 -> same("lineRound" + only, () -> x.lineRound(line), () -> m.lineRound(line));
            case 20 -> same("isSteady" + only, () -> x.isSteady(line), () -> m.isSteady(line));
            default -> same("lineByLevel" + only, () -> x.lineByLevel(line), () -> m.lineByLevel(line));
        }
    }

    private void askWithin(int line, int point) {
        String both = "(" + line + ", " + point + ")";
        same("isWithinByRays" + both, () -> x.isWithinByRays(line, point), () -> m.isWithin(line, point));
        same("isWithinBySpreading" + both, () -> x.isWithinBySpreading(line, point), () -> m.isWithin(line, point));
    }

    // Closed lines that wander over few points, with pockets and slits: both ways must tell the same.
    private static int pockets() {
        int wrongLines = 0;
        int closed = 0;
        for (int seed = 0; seed < 40000; seed++) {
            Random random = new Random(seed);
            ContourLabels x = new ContourLabels();
            PlainModel m = new PlainModel();
            x.begin(5, 24 * 4 + 4);
            m.begin(5, 24 * 4 + 4);
            for (int tries = 0; tries < 200 && !m.line(0).closed(); tries++) {
                int direction = random.nextInt(8);
                int[] last = m.line(0).points.get(m.line(0).steps());
                int[] way = PlainModel.WAYS[direction];
                if (last[0] + way[0] < 8 && last[1] + way[1] < 8 && m.whyNotStepped(0, direction) == 0) {
                    x.step(0, direction);
                    m.step(0, direction);
                }
            }
            if (m.line(0).closed() && m.line(0).steps() > 8) {
                closed++;
                wrongLines += differs(x, m) ? 1 : 0;
            }
        }
        System.out.println(closed + " wandering closed lines");
        return wrongLines;
    }

    private static boolean differs(ContourLabels x, PlainModel m) {
        for (int point = 0; point < 24 * 10; point++) {
            boolean within = m.isWithin(0, point);
            if (point % 24 < 10 && (x.isWithinByRays(0, point) != within || x.isWithinBySpreading(0, point) != within)) {
                System.out.println("within differs at " + point);
                return true;
            }
        }
        return false;
    }
}
