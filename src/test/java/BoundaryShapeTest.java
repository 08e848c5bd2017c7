import java.util.function.Consumer;

/** The boundary cases of the promises about the shape, 1 to 6 and 14, a test for each sentence. */
public final class BoundaryShapeTest {
    private static final Due due = new Due();
    private static final int LEAST = Integer.MIN_VALUE;
    private static final int GREATEST = Integer.MAX_VALUE;
    private static final int[] FIRST_REFUSED = {-1, 65, LEAST, GREATEST};

    public static void main(String[] args) {
        promise1AllPixelsHaveColour0();
        promise1TheShapeHasNoContours();
        promise1AnOlderObjectLeavesNothingBehind();
        promise2LastPointsTaken();
        promise2FirstPointsRefused();
        promise2FourthContourTakenFifthRefused();
        promise2TwelfthCornerTakenThirteenthRefused();
        promise2AnswersContoursNotCorners();
        promise3LastPointsTaken();
        promise3FirstPointsRefused();
        promise3NoContourIsFull();
        promise3TwelfthCornerTakenThirteenthRefused();
        promise3FourContoursAreNotFullForCorner();
        promise3AnswersCornersOfAllContours();
        promise4LastMoveTakenFirstRefusedEachWay();
        promise4OneCornerIsEnoughToRefuse();
        promise4BothCoordinatesAreLookedAt();
        promise4SumsThatWrapAroundAreRefused();
        promise4NoCornersMoveAnywhere();
        promise4AnswersCorners();
        promise5MirrorsNoneOneAndTwelveCorners();
        promise5MirrorsTheBorders();
        promise6ClearsEmptyAndFull();
        promise6LimitsBeginAnew();
        promise14BadPointIsTestedBeforeFull();
        due.end();
    }

    // "All pixels have colour 0; the shape has no contours."

    private static void promise1AllPixelsHaveColour0() {
        due.holds("1: all pixels have colour 0", Shapes.pixels(f -> { }).equals("0 ".repeat(256)));
    }

    private static void promise1TheShapeHasNoContours() {
        due.is("1: no corners", new PolygonFill().move(0, 0), 0);
        due.is("1: no contour for a corner", new PolygonFill().corner(0, 0), PolygonFill.FULL);
        due.is("1: the first contour", new PolygonFill().begin(0, 0), 1);
        due.is("1: no area", new PolygonFill().area(false), 0);
        due.is("1: no odd area", new PolygonFill().area(true), 0);
        due.holds("1: no windings", Shapes.windings(f -> { }).equals("0 ".repeat(65 * 65)));
    }

    private static void promise1AnOlderObjectLeavesNothingBehind() {
        String before = State.of(f -> { });
        PolygonFill older = new PolygonFill();
        State.fourContoursTwelveCorners(older);
        due.holds("1: a new object beside an older one", State.of(f -> { }).equals(before));
        due.is("1: the older one stays full", older.begin(1, 1), PolygonFill.FULL);
        State.STATES.forEach((name, run) -> due.holds("1: an object made later leaves the older as it is, " + name,
            State.of(run.andThen(f -> State.paintedShape(new PolygonFill()))).equals(State.of(run))));
    }

    // "x or y not in 0 to 64: BAD_POINT; ... nothing changes then."

    private static void promise2LastPointsTaken() {
        for (int x : new int[] {0, 1, 63, 64}) {
            for (int y : new int[] {0, 1, 63, 64}) {
                PolygonFill fill = new PolygonFill();
                due.is("2: begin(" + x + ", " + y + ")", fill.begin(x, y), 1);
                stands("2: begin(" + x + ", " + y + ")", f -> f.begin(x, y), x, y);
            }
        }
    }

    private static void promise2FirstPointsRefused() {
        for (int bad : FIRST_REFUSED) {
            for (int good : new int[] {0, 64}) {
                State.staysInEveryState(due, "2: begin(" + bad + ", " + good + ")",
                    f -> f.begin(bad, good), PolygonFill.BAD_POINT);
                State.staysInEveryState(due, "2: begin(" + good + ", " + bad + ")",
                    f -> f.begin(good, bad), PolygonFill.BAD_POINT);
            }
            State.staysInEveryState(due, "2: begin(" + bad + ", " + bad + ")",
                f -> f.begin(bad, bad), PolygonFill.BAD_POINT);
        }
    }

    // "the shape has four contours or twelve corners: FULL; nothing changes then."

    private static void promise2FourthContourTakenFifthRefused() {
        PolygonFill fill = new PolygonFill();
        for (int i = 1; i <= 4; i++) {
            due.is("2: contour " + i, fill.begin(64, i), i);
        }
        State.stays(due, "2: four contours of one corner", f -> {
            for (int i = 1; i <= 4; i++) {
                f.begin(64, i);
            }
        }, "begin(9, 9)", f -> f.begin(9, 9), PolygonFill.FULL);
        State.stays(due, "2: four contours, eight corners", State::fourContours,
            "begin(0, 0)", f -> f.begin(0, 0), PolygonFill.FULL);
        State.stays(due, "2: four contours, twelve corners", State::fourContoursTwelveCorners,
            "begin(64, 64)", f -> f.begin(64, 64), PolygonFill.FULL);
        State.stays(due, "2: four contours, eleven corners", f -> cornersThenContours(f, 8, 4),
            "begin(9, 9)", f -> f.begin(9, 9), PolygonFill.FULL);
    }

    private static void promise2TwelfthCornerTakenThirteenthRefused() {
        for (int contours = 1; contours <= 3; contours++) {
            int already = contours;
            // Eleven corners in so many contours: the next one still has room for its first corner.
            Consumer<PolygonFill> eleven = f -> cornersThenContours(f, 12 - already, already);
            due.is("2: begin as twelfth corner after " + already,
                Shapes.after(eleven).begin(9, 9), already + 1);
            Consumer<PolygonFill> twelve = f -> cornersThenContours(f, 13 - already, already);
            State.stays(due, "2: twelve corners in " + already, twelve,
                "begin(9, 9)", f -> f.begin(9, 9), PolygonFill.FULL);
            State.stays(due, "2: twelve corners, the last one begun", eleven.andThen(f -> f.begin(50, 3)),
                "begin(9, 9)", f -> f.begin(9, 9), PolygonFill.FULL);
        }
    }

    // "Else answers how many contours the shape has."

    private static void promise2AnswersContoursNotCorners() {
        PolygonFill fill = new PolygonFill();
        int[] cornersMore = {3, 0, 2, 0};
        for (int i = 0; i < 4; i++) {
            due.is("2: contours at begin " + (i + 1), fill.begin(5, 5), i + 1);
            for (int j = 0; j < cornersMore[i]; j++) {
                fill.corner(6, 6);
            }
        }
        fill.clear();
        due.is("2: contours after clear", fill.begin(5, 5), 1);
    }

    // "BAD_POINT; ... nothing changes then."

    private static void promise3LastPointsTaken() {
        for (int x : new int[] {0, 1, 63, 64}) {
            for (int y : new int[] {0, 1, 63, 64}) {
                PolygonFill fill = new PolygonFill();
                fill.begin(x, y);
                due.is("3: corner(" + x + ", " + y + ")", fill.corner(x, y), 2);
                stands("3: corner(" + x + ", " + y + ")", f -> {
                    f.begin(x, y);
                    f.corner(x, y);
                }, x, y);
            }
        }
    }

    private static void promise3FirstPointsRefused() {
        for (int bad : FIRST_REFUSED) {
            for (int good : new int[] {0, 64}) {
                State.staysInEveryState(due, "3: corner(" + bad + ", " + good + ")",
                    f -> f.corner(bad, good), PolygonFill.BAD_POINT);
                State.staysInEveryState(due, "3: corner(" + good + ", " + bad + ")",
                    f -> f.corner(good, bad), PolygonFill.BAD_POINT);
            }
            State.staysInEveryState(due, "3: corner(" + bad + ", " + bad + ")",
                f -> f.corner(bad, bad), PolygonFill.BAD_POINT);
        }
    }

    // "there is no contour, or the shape has twelve corners: FULL; nothing changes then."

    private static void promise3NoContourIsFull() {
        State.stays(due, "3: a new object", f -> { }, "corner(5, 5)", f -> f.corner(5, 5), PolygonFill.FULL);
        State.stays(due, "3: after clear", f -> {
            State.twelveCorners(f);
            f.clear();
        }, "corner(5, 5)", f -> f.corner(5, 5), PolygonFill.FULL);
        State.stays(due, "3: after a refused begin", f -> f.begin(65, 5),
            "corner(5, 5)", f -> f.corner(5, 5), PolygonFill.FULL);
        State.stays(due, "3: after move, mirror, paint and wipe of nothing", f -> {
            f.move(1, 1);
            f.mirror();
            f.paint(5, true);
            f.wipe(6);
        }, "corner(5, 5)", f -> f.corner(5, 5), PolygonFill.FULL);
        PolygonFill fill = new PolygonFill();
        fill.corner(5, 5);
        due.is("3: the first contour after a refused corner", fill.begin(6, 6), 1);
        due.is("3: the first corner that is taken", fill.corner(5, 5), 2);
    }

    private static void promise3TwelfthCornerTakenThirteenthRefused() {
        for (int contours = 1; contours <= 4; contours++) {
            int already = contours;
            Consumer<PolygonFill> eleven = f -> cornersThenContours(f, 12 - already, already);
            due.is("3: twelfth corner in " + already, Shapes.after(eleven).corner(9, 9), 12);
            State.stays(due, "3: twelve corners in " + already, eleven.andThen(f -> f.corner(50, 3)),
                "corner(9, 9)", f -> f.corner(9, 9), PolygonFill.FULL);
        }
        State.stays(due, "3: twelve corners", State::twelveCorners,
            "corner(0, 0)", f -> f.corner(0, 0), PolygonFill.FULL);
        State.stays(due, "3: four contours, twelve corners", State::fourContoursTwelveCorners,
            "corner(64, 64)", f -> f.corner(64, 64), PolygonFill.FULL);
    }

    private static void promise3FourContoursAreNotFullForCorner() {
        PolygonFill fill = Shapes.after(State::fourContours);
        due.is("3: no fifth contour", fill.begin(9, 9), PolygonFill.FULL);
        for (int i = 9; i <= 12; i++) {
            due.is("3: corner " + i + " of four contours", fill.corner(9, 9), i);
        }
        due.is("3: corner 13 of four contours", fill.corner(9, 9), PolygonFill.FULL);
    }

    // "Else answers how many corners the shape has."

    private static void promise3AnswersCornersOfAllContours() {
        PolygonFill fill = new PolygonFill();
        fill.begin(1, 1);
        due.is("3: corner of the first contour", fill.corner(2, 2), 2);
        fill.begin(3, 3);
        fill.begin(4, 4);
        due.is("3: corner of the third contour", fill.corner(5, 5), 5);
        fill.clear();
        fill.begin(1, 1);
        due.is("3: corner after clear", fill.corner(2, 2), 2);
    }

    // "Some corner would leave 0 to 64 in x or y: BAD_POINT, nothing changes."

    private static void promise4LastMoveTakenFirstRefusedEachWay() {
        for (int x = 0; x <= 64; x += 16) {
            for (int y = 0; y <= 64; y += 16) {
                int[] last = {-x, 0, 64 - x, 0, 0, -y, 0, 64 - y};
                int[] first = {-x - 1, 0, 65 - x, 0, 0, -y - 1, 0, 65 - y};
                for (int i = 0; i < 8; i += 2) {
                    moveAndOneMore(x, y, last[i], last[i + 1], first[i], first[i + 1]);
                }
            }
        }
    }

    private static void moveAndOneMore(int x, int y, int dx, int dy, int tooFarX, int tooFarY) {
        String name = "4: from (" + x + ", " + y + ") by ";
        Consumer<PolygonFill> dot = f -> f.begin(x, y);
        due.is(name + dx + ", " + dy, Shapes.after(dot).move(dx, dy), 1);
        stands(name + dx + ", " + dy, dot.andThen(f -> f.move(dx, dy)), x + dx, y + dy);
        due.is(name + tooFarX + ", " + tooFarY, Shapes.after(dot).move(tooFarX, tooFarY), PolygonFill.BAD_POINT);
        stands(name + tooFarX + ", " + tooFarY, dot.andThen(f -> f.move(tooFarX, tooFarY)), x, y);
    }

    private static void promise4OneCornerIsEnoughToRefuse() {
        // The corner that would leave is the first, each one between, and the last of twelve in four contours.
        for (int outer = 0; outer < 12; outer++) {
            int at = outer;
            for (int[] way : new int[][] {{1, 0, 64, 30}, {-1, 0, 0, 30}, {0, 1, 30, 64}, {0, -1, 30, 0}}) {
                Consumer<PolygonFill> before = f -> {
                    for (int i = 0; i < 12; i++) {
                        int x = i == at ? way[2] : 20 + i * 7 % 12 * 2;
                        int y = i == at ? way[3] : 20 + i * 5 % 12 * 2;
                        add(f, i % 3 == 0, x, y);
                    }
                };
                State.stays(due, "4: corner " + at + " at (" + way[2] + ", " + way[3] + ")", before,
                    "move(" + way[0] + ", " + way[1] + ")", f -> f.move(way[0], way[1]), PolygonFill.BAD_POINT);
                due.is("4: the other way", Shapes.after(before).move(-way[0], -way[1]), 12);
            }
        }
    }

    private static void promise4BothCoordinatesAreLookedAt() {
        Consumer<PolygonFill> before = f -> {
            Shapes.rectangle(f, 10, 20, 50, 60);
            f.paint(99, false);
        };
        due.is("4: as far as x and y go", Shapes.after(before).move(14, 4), 4);
        due.is("4: as far back as they go", Shapes.after(before).move(-10, -20), 4);
        int[] moves = {15, 4, 14, 5, 15, 5, -11, -20, -10, -21, -11, -21, 15, -20, -11, 4, 14, -21, -10, 5};
        for (int i = 0; i < moves.length; i += 2) {
            int dx = moves[i];
            int dy = moves[i + 1];
            State.stays(due, "4: a rectangle", before, "move(" + dx + ", " + dy + ")",
                f -> f.move(dx, dy), PolygonFill.BAD_POINT);
        }
    }

    private static void promise4SumsThatWrapAroundAreRefused() {
        int[] far = {LEAST, LEAST + 1, LEAST + 64, LEAST + 65, -65, 65, GREATEST - 64, GREATEST - 63, GREATEST - 1,
            GREATEST};
        Consumer<PolygonFill> before = f -> Shapes.contour(f, 0, 0, 64, 0, 64, 64, 0, 64, 32, 32);
        for (int d : far) {
            State.stays(due, "4: corners at all borders", before, "move(" + d + ", 0)",
                f -> f.move(d, 0), PolygonFill.BAD_POINT);
            State.stays(due, "4: corners at all borders", before, "move(0, " + d + ")",
                f -> f.move(0, d), PolygonFill.BAD_POINT);
            for (int e : far) {
                due.is("4: move(" + d + ", " + e + ")", Shapes.after(before).move(d, e), PolygonFill.BAD_POINT);
            }
        }
        due.is("4: corners at all borders stay", Shapes.after(before).move(0, 0), 5);
    }

    private static void promise4NoCornersMoveAnywhere() {
        for (int d : new int[] {0, 1, -1, 64, 65, -65, LEAST, GREATEST}) {
            State.stays(due, "4: a new object", f -> { }, "move(" + d + ", " + d + ")", f -> f.move(d, d), 0);
            State.stays(due, "4: a cleared shape", f -> {
                State.twelveCorners(f);
                f.clear();
            }, "move(" + d + ", " + d + ")", f -> f.move(d, d), 0);
        }
    }

    // "Else answers how many corners there are."

    private static void promise4AnswersCorners() {
        PolygonFill fill = new PolygonFill();
        for (int corners = 1; corners <= 12; corners++) {
            add(fill, corners % 4 == 1, 30, 30);
            due.is("4: move of " + corners, fill.move(1, -1), corners);
        }
    }

    // "Exchanges x and y of all corners."

    private static void promise5MirrorsNoneOneAndTwelveCorners() {
        due.holds("5: no corners", State.of(PolygonFill::mirror).equals(State.of(f -> { })));
        stands("5: one corner", f -> {
            f.begin(3, 50);
            f.mirror();
        }, 50, 3);
        int[] points = {5, 9, 30, 2, 28, 31, 6, 29, 20, 22, 40, 18, 58, 25, 59, 44, 50, 58, 35, 57, 25, 50, 17, 35};
        due.holds("5: twelve corners in one contour",
            State.of(inContours(points, 12).andThen(PolygonFill::mirror))
                .equals(State.of(inContours(exchanged(points), 12))));
        due.holds("5: twelve corners in four contours",
            State.of(inContours(points, 3).andThen(PolygonFill::mirror))
                .equals(State.of(inContours(exchanged(points), 3))));
        State.STATES.forEach((name, before) -> {
            Consumer<PolygonFill> twice = before.andThen(PolygonFill::mirror).andThen(PolygonFill::mirror);
            due.holds("5: twice is not at all, " + name, State.of(twice).equals(State.of(before)));
            due.holds("5: the raster stays, " + name,
                State.pixels(before.andThen(PolygonFill::mirror)).equals(State.pixels(before)));
        });
    }

    private static void promise5MirrorsTheBorders() {
        for (int x : new int[] {0, 32, 64}) {
            for (int y : new int[] {0, 32, 64}) {
                stands("5: (" + x + ", " + y + ")", f -> {
                    f.begin(x, y);
                    f.mirror();
                }, y, x);
            }
        }
    }

    // "The shape has no contours any more."

    private static void promise6ClearsEmptyAndFull() {
        State.STATES.forEach((name, before) -> {
            PolygonFill fill = Shapes.after(before);
            fill.clear();
            due.is("6: " + name + ", corners", fill.move(0, 0), 0);
            due.is("6: " + name + ", corner", fill.corner(5, 5), PolygonFill.FULL);
            due.is("6: " + name + ", area", fill.area(false), 0);
            due.is("6: " + name + ", odd area", fill.area(true), 0);
            due.is("6: " + name + ", paint", fill.paint(255, false), 0);
            due.holds("6: " + name + ", windings",
                Shapes.windings(before.andThen(PolygonFill::clear)).equals("0 ".repeat(65 * 65)));
            due.holds("6: " + name + ", the raster stays",
                State.pixels(before.andThen(PolygonFill::clear)).equals(State.pixels(before)));
            due.holds("6: " + name + ", clear twice",
                State.of(before.andThen(PolygonFill::clear).andThen(PolygonFill::clear))
                    .equals(State.of(before.andThen(PolygonFill::clear))));
        });
    }

    private static void promise6LimitsBeginAnew() {
        State.STATES.forEach((name, before) -> {
            Consumer<PolygonFill> cleared = before.andThen(PolygonFill::clear);
            PolygonFill contours = Shapes.after(cleared);
            for (int i = 1; i <= 4; i++) {
                due.is("6: " + name + ", contour " + i + " anew", contours.begin(5, 5), i);
            }
            due.is("6: " + name + ", fifth contour", contours.begin(5, 5), PolygonFill.FULL);
            PolygonFill corners = Shapes.after(cleared);
            corners.begin(5, 5);
            for (int i = 2; i <= 12; i++) {
                due.is("6: " + name + ", corner " + i + " anew", corners.corner(5, 5), i);
            }
            due.is("6: " + name + ", thirteenth corner", corners.corner(5, 5), PolygonFill.FULL);
            // Contours lay elsewhere in the older shape: none of its ends may cut the new contour.
            Consumer<PolygonFill> anew = inContours(new int[] {5, 5, 60, 7, 55, 31, 30, 20, 33, 58, 8, 50}, 6);
            due.holds("6: " + name + ", a new contour is whole",
                Shapes.windings(cleared.andThen(anew)).equals(Shapes.windings(anew)));
        });
    }

    // "begin and corner: BAD_POINT is tested before FULL."

    private static void promise14BadPointIsTestedBeforeFull() {
        String[] full = {"four contours", "twelve corners", "four contours and twelve corners"};
        for (String name : full) {
            Consumer<PolygonFill> before = State.STATES.get(name);
            due.is("14: begin, " + name, Shapes.after(before).begin(64, 64), PolygonFill.FULL);
            for (int bad : FIRST_REFUSED) {
                due.is("14: begin, " + name + ", bad x", Shapes.after(before).begin(bad, 0), PolygonFill.BAD_POINT);
                due.is("14: begin, " + name + ", bad y", Shapes.after(before).begin(0, bad), PolygonFill.BAD_POINT);
            }
        }
        String[] fullForCorner = {"a new object", "a cleared shape", "twelve corners",
            "four contours and twelve corners"};
        for (String name : fullForCorner) {
            Consumer<PolygonFill> before = State.STATES.get(name);
            due.is("14: corner, " + name, Shapes.after(before).corner(64, 64), PolygonFill.FULL);
            for (int bad : FIRST_REFUSED) {
                due.is("14: corner, " + name + ", bad x", Shapes.after(before).corner(bad, 0), PolygonFill.BAD_POINT);
                due.is("14: corner, " + name + ", bad y", Shapes.after(before).corner(0, bad), PolygonFill.BAD_POINT);
            }
        }
    }

    /** All corners of the shape are at (x, y): what it may move each way tells so. */
    private static void stands(String name, Consumer<PolygonFill> run, int x, int y) {
        int[] last = {-x, 0, 64 - x, 0, 0, -y, 0, 64 - y};
        int[] first = {-x - 1, 0, 65 - x, 0, 0, -y - 1, 0, 65 - y};
        for (int i = 0; i < 8; i += 2) {
            due.holds(name + " stands at (" + x + ", " + y + "), way " + i,
                Shapes.after(run).move(last[i], last[i + 1]) > 0
                    && Shapes.after(run).move(first[i], first[i + 1]) == PolygonFill.BAD_POINT);
        }
    }

    /** One contour of so many corners, then single corners until there are so many contours. */
    private static void cornersThenContours(PolygonFill fill, int corners, int contours) {
        fill.begin(10, 10);
        for (int i = 1; i < corners; i++) {
            fill.corner(10 + i * 11 % 40, 10 + i * 17 % 40);
        }
        for (int i = 1; i < contours; i++) {
            fill.begin(20 + i, 50 - i);
        }
    }

    private static void add(PolygonFill fill, boolean begins, int x, int y) {
        if (begins) {
            fill.begin(x, y);
        } else {
            fill.corner(x, y);
        }
    }

    private static Consumer<PolygonFill> inContours(int[] points, int each) {
        return f -> {
            for (int i = 0; i < points.length / 2; i++) {
                add(f, i % each == 0, points[2 * i], points[2 * i + 1]);
            }
        };
    }

    private static int[] exchanged(int[] points) {
        int[] others = new int[points.length];
        for (int i = 0; i < points.length; i++) {
            others[i] = points[i ^ 1];
        }
        return others;
    }
}
