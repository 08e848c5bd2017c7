import java.util.function.Consumer;

/** The boundary cases that the document's "What it is" and "Terms" name, a test for each sentence. */
public final class BoundaryTermsTest {
    private static final Due due = new Due();
    private static final int CALLS = 512;

    public static void main(String[] args) {
        callsThatChangeTheShapeHoldUpToThe512th();
        callsThatChangeTheRasterHoldUpToThe512th();
        callsThatAskHoldUpToThe512th();
        rasterHasSixteenRowsAndColumns();
        pixelHasAColourFrom0To255();
        pointHasCoordinatesFrom0To64();
        pixelCoversFourUnitsEachWay();
        pixelHasFourSamples();
        shapeHasUpToFourContours();
        shapeHasUpToTwelveCornersTogether();
        contourIsClosedFromItsLastCornerToItsFirst();
        contourMayHaveOneCorner();
        contourMayHaveTwoCorners();
        edgeDownHoldsItsUpperEndAlone();
        edgeUpHoldsItsUpperEndAlone();
        edgeAtOneHeightCountsNothing();
        edgesMeetingAtACornerCountOnce();
        edgeCountsOnlyStrictlyToTheRight();
        edgeIsStrictByTheSmallestFraction();
        edgeIsStrictAtEveryHeightAndSlant();
        nonzeroIsEveryWindingButZero();
        coverageIsZeroToFour();
        due.end();
    }

    // "An object is used for at most 512 calls after it has been made"

    private static void callsThatChangeTheShapeHoldUpToThe512th() {
        PolygonFill begun = new PolygonFill();
        for (int call = 1; call < CALLS; call++) {
            due.is("begin, call " + call, begun.begin(5, 5), call <= 4 ? call : PolygonFill.FULL);
        }
        due.is("corner as call 512", begun.corner(5, 5), 5);

        PolygonFill cornered = new PolygonFill();
        cornered.begin(5, 5);
        for (int call = 2; call < CALLS; call++) {
            due.is("corner, call " + call, cornered.corner(5, 5), call <= 12 ? call : PolygonFill.FULL);
        }
        due.is("begin as call 512", cornered.begin(5, 5), PolygonFill.FULL);

        PolygonFill renewed = new PolygonFill();
        for (int call = 1; call < CALLS; call += 2) {
            due.is("begin after clear, call " + call, renewed.begin(5, 5), 1);
            renewed.clear();
        }

        PolygonFill moved = new PolygonFill();
        Shapes.rectangle(moved, 0, 0, 4, 4);
        for (int call = 5; call < CALLS; call++) {
            int step = call % 2 == 1 ? 2 : -2;
            due.is("move, call " + call, moved.move(step, step), 4);
        }
        due.is("coverage as call 512 after 507 moves", moved.coverage(0, 0, false), 1);

        PolygonFill mirrored = new PolygonFill();
        Shapes.rectangle(mirrored, 8, 0, 12, 4);
        for (int call = 5; call < CALLS; call++) {
            mirrored.mirror();
        }
        due.is("coverage as call 512 after 507 mirrors", mirrored.coverage(2, 0, false), 4);
    }

    private static void callsThatChangeTheRasterHoldUpToThe512th() {
        PolygonFill wiped = new PolygonFill();
        for (int call = 1; call < CALLS; call++) {
            due.is("wipe, call " + call, wiped.wipe(call % 256), 0);
        }
        due.is("pixel as call 512", wiped.pixel(15, 15), 511 % 256);

        PolygonFill painted = new PolygonFill();
        Shapes.rectangle(painted, 0, 0, 2, 2);
        int colour = 0;
        for (int call = 5; call < CALLS; call++) {
            int paint = call * 37 % 256;
            due.is("paint, call " + call, painted.paint(paint, call % 2 == 0), 1);
            colour = (colour * 3 + paint) / 4;
        }
        due.is("pixel as call 512 after 507 paints", painted.pixel(0, 0), colour);
    }

    private static void callsThatAskHoldUpToThe512th() {
        PolygonFill fill = new PolygonFill();
        Shapes.rectangle(fill, 0, 0, 64, 64);
        fill.paint(255, false);
        for (int call = 6; call < CALLS; call++) {
            String name = " as call " + call;
            switch (call % 5) {
                case 0 -> due.is("pixel" + name, fill.pixel(call % 16, 15), 255);
                case 1 -> due.is("coverage" + name, fill.coverage(15, call % 16, true), 4);
                case 2 -> due.is("area" + name, fill.area(false), 1024);
                case 3 -> due.is("winding" + name, fill.winding(call % 64, 63), 1);
                default -> due.is("rowSum" + name, fill.rowSum(call % 16), 4080);
            }
        }
        due.is("move as call 512", fill.move(0, 0), 4);
    }

    // "The RASTER has sixteen rows and sixteen columns of PIXELS"

    private static void rasterHasSixteenRowsAndColumns() {
        for (int row = 0; row < 16; row++) {
            for (int column = 0; column < 16; column++) {
                int left = 4 * column;
                int top = 4 * row;
                Consumer<PolygonFill> one = f -> {
                    Shapes.rectangle(f, left, top, left + 4, top + 4);
                    f.paint(255, false);
                };
                StringBuilder due256 = new StringBuilder();
                for (int i = 0; i < 256; i++) {
                    due256.append(i == row * 16 + column ? 255 : 0).append(' ');
                }
                due.holds("row " + row + ", column " + column + " is a pixel of its own",
                    Shapes.pixels(one).equals(due256.toString()));
            }
        }
        PolygonFill fill = new PolygonFill();
        due.is("the row before the first", fill.pixel(-1, 0), PolygonFill.BAD_PIXEL);
        due.is("the row after the last", fill.pixel(16, 0), PolygonFill.BAD_PIXEL);
        due.is("the column before the first", fill.pixel(0, -1), PolygonFill.BAD_PIXEL);
        due.is("the column after the last", fill.pixel(0, 16), PolygonFill.BAD_PIXEL);
    }

    // "each with a COLOUR 0 to 255"

    private static void pixelHasAColourFrom0To255() {
        for (int colour = 0; colour <= 255; colour++) {
            PolygonFill fill = new PolygonFill();
            due.is("wipe(" + colour + ")", fill.wipe(colour), 0);
            due.is("first pixel of colour " + colour, fill.pixel(0, 0), colour);
            due.is("last pixel of colour " + colour, fill.pixel(15, 15), colour);
        }
        PolygonFill fill = new PolygonFill();
        due.is("the colour before the first", fill.wipe(-1), PolygonFill.BAD_COLOUR);
        due.is("the colour after the last", fill.wipe(256), PolygonFill.BAD_COLOUR);
    }

    // "A point of the plane has whole coordinates x and y, each 0 to 64"

    private static void pointHasCoordinatesFrom0To64() {
        for (int y = -1; y <= 65; y++) {
            PolygonFill fill = new PolygonFill();
            for (int x = -1; x <= 65; x++) {
                boolean point = x >= 0 && x <= 64 && y >= 0 && y <= 64;
                String name = "(" + x + ", " + y + ")";
                due.is("begin" + name, fill.begin(x, y), point ? 1 : PolygonFill.BAD_POINT);
                due.is("corner" + name, fill.corner(x, y), point ? 2 : PolygonFill.BAD_POINT);
                due.is("corners at " + name, fill.move(0, 0), point ? 2 : 0);
                fill.clear();
            }
        }
    }

    // "pixel (column c, row r) covers x from 4c to 4c + 4 and y from 4r to 4r + 4"

    private static void pixelCoversFourUnitsEachWay() {
        for (int at = 0; at < 16; at++) {
            PolygonFill column = new PolygonFill();
            Shapes.rectangle(column, 4 * at, 0, 4 * at + 4, 64);
            PolygonFill row = new PolygonFill();
            Shapes.rectangle(row, 0, 4 * at, 64, 4 * at + 4);
            for (int other = 0; other < 16; other++) {
                int want = other == at ? 4 : 0;
                due.is("column " + at + " in column " + other, column.coverage(15 - at, other, false), want);
                due.is("row " + at + " in row " + other, row.coverage(other, 15 - at, false), want);
            }
        }
    }

    // "its SAMPLES are the four points (4c + 1, 4r + 1), (4c + 3, 4r + 1), (4c + 1, 4r + 3), (4c + 3, 4r + 3)"

    private static void pixelHasFourSamples() {
        for (int y = 0; y < 64; y++) {
            for (int x = 0; x < 64; x++) {
                // Of all points with whole coordinates this square holds (x, y) alone.
                PolygonFill fill = new PolygonFill();
                Shapes.rectangle(fill, x, y, x + 1, y + 1);
                boolean sample = (x % 4 == 1 || x % 4 == 3) && (y % 4 == 1 || y % 4 == 3);
                String name = " of the point (" + x + ", " + y + ")";
                due.is("coverage" + name, fill.coverage(y / 4, x / 4, false), sample ? 1 : 0);
                due.is("area" + name, fill.area(true), sample ? 1 : 0);
            }
        }
    }

    // "A SHAPE is a list of up to four CONTOURS"

    private static void shapeHasUpToFourContours() {
        for (int each = 1; each <= 3; each++) {
            PolygonFill fill = new PolygonFill();
            for (int contour = 1; contour <= 4; contour++) {
                due.is("contour " + contour + " of " + each + " corners", fill.begin(contour, 9), contour);
                for (int i = 1; i < each; i++) {
                    fill.corner(contour, 9 + i);
                }
            }
            due.is("fifth contour after four of " + each, fill.begin(1, 1), PolygonFill.FULL);
            due.is("corners of four contours of " + each, fill.move(0, 0), 4 * each);
        }
    }

    // "all contours together having up to twelve CORNERS"

    private static void shapeHasUpToTwelveCornersTogether() {
        for (int one = 1; one <= 12; one++) {
            for (int two = 0; one + two <= 12; two++) {
                for (int three = 0; one + two + three <= 12; three++) {
                    if (two > 0 || three == 0) {
                        twelveCornersAs(one, two, three);
                    }
                }
            }
        }
    }

    /** The fourth contour, or the first that was to have no corner, takes what is left of the twelve. */
    private static void twelveCornersAs(int one, int two, int three) {
        PolygonFill fill = new PolygonFill();
        int[] sizes = {one, two, three, 12};
        int corners = 0;
        int contours = 0;
        for (int size : sizes) {
            for (int i = 0; i < size && corners < 12; i++) {
                corners++;
                if (i == 0) {
                    contours++;
                    due.is("begin as corner " + corners, fill.begin(7, 7), contours);
                } else {
                    due.is("corner " + corners, fill.corner(7, 7), corners);
                }
            }
        }
        String name = " after " + one + ", " + two + ", " + three + " and the rest";
        due.is("thirteenth corner" + name, fill.corner(7, 7), PolygonFill.FULL);
        due.is("begin as thirteenth corner" + name, fill.begin(7, 7), PolygonFill.FULL);
        due.is("corners" + name, fill.move(0, 0), 12);
    }

    // "each contour being closed from its last corner to its first"

    private static void contourIsClosedFromItsLastCornerToItsFirst() {
        // In each of these the edge that closes the contour is the only one right of the inside.
        PolygonFill alone = new PolygonFill();
        Shapes.contour(alone, 20, 20, 10, 20, 10, 10, 20, 10);
        due.is("closing edge of a lone contour", alone.winding(19, 15), 1);

        PolygonFill four = new PolygonFill();
        Shapes.contour(four, 10, 20, 0, 20, 10, 0);
        Shapes.contour(four, 30, 20, 20, 20, 30, 0);
        Shapes.contour(four, 10, 60, 0, 60, 10, 40);
        Shapes.contour(four, 30, 60, 20, 60, 30, 40);
        due.is("closing edge of the first of four", four.winding(9, 10), 1);
        due.is("closing edge of the second of four", four.winding(29, 10), 1);
        due.is("closing edge of the third of four", four.winding(9, 50), 1);
        due.is("closing edge of the last of four", four.winding(29, 50), 1);
        due.is("no edge from the first to the second", four.winding(15, 10), 0);
        due.is("no edge from the second to the third", four.winding(15, 30), 0);
        due.is("no edge from the third to the last", four.winding(15, 50), 0);
        due.is("no edge from the last to the first", four.winding(5, 30), 0);

        PolygonFill twelve = new PolygonFill();
        Shapes.contour(twelve, 40, 60, 30, 60, 20, 60, 10, 60, 10, 50, 10, 40, 10, 30, 10, 20, 10, 10, 20, 10,
            30, 10, 40, 10);
        due.is("corners of the long contour", twelve.move(0, 0), 12);
        due.is("closing edge of a contour of twelve", twelve.winding(39, 30), 1);
        due.is("right of it", twelve.winding(40, 30), 0);
    }

    // "A contour may have one corner or two."

    private static void contourMayHaveOneCorner() {
        String nothing = Shapes.windings(f -> { });
        for (int[] at : new int[][] {{0, 0}, {64, 64}, {0, 64}, {64, 0}, {33, 31}}) {
            String name = "one corner at (" + at[0] + ", " + at[1] + ")";
            due.holds(name + " winds round nothing", Shapes.windings(f -> f.begin(at[0], at[1])).equals(nothing));
        }
        PolygonFill fill = new PolygonFill();
        fill.begin(33, 31);
        due.is("one corner covers nothing", fill.area(false), 0);
        due.is("one corner covers nothing oddly", fill.area(true), 0);
        due.is("one corner is moved", fill.move(1, 1), 1);
        due.is("it counts as a contour", fill.begin(34, 32), 2);

        Consumer<PolygonFill> square = f -> Shapes.rectangle(f, 9, 9, 40, 40);
        Consumer<PolygonFill> between = f -> {
            f.begin(50, 20);
            square.accept(f);
            f.begin(3, 30);
        };
        due.holds("single corners ahead of a contour and after it leave it as it is",
            Shapes.windings(between).equals(Shapes.windings(square)));
    }

    private static void contourMayHaveTwoCorners() {
        String nothing = Shapes.windings(f -> { });
        for (int[] at : new int[][] {{0, 0, 64, 64}, {64, 0, 0, 64}, {20, 0, 20, 64}, {0, 20, 64, 20}, {5, 5, 5, 5},
            {0, 63, 64, 64}, {63, 64, 64, 0}}) {
            String name = "two corners (" + at[0] + ", " + at[1] + "), (" + at[2] + ", " + at[3] + ")";
            due.holds(name + " wind round nothing", Shapes.windings(f -> Shapes.contour(f, at)).equals(nothing));
        }
        PolygonFill fill = new PolygonFill();
        Shapes.contour(fill, 0, 0, 64, 64);
        due.is("two corners cover nothing", fill.area(false), 0);
        due.is("two corners cover nothing oddly", fill.area(true), 0);
        due.is("two corners are moved", fill.move(0, 0), 2);
        due.is("a third makes a triangle", fill.corner(0, 64), 3);
        due.is("the triangle's area", fill.area(false), 31 * 32 / 2);

        Consumer<PolygonFill> square = f -> Shapes.rectangle(f, 9, 9, 40, 40);
        Consumer<PolygonFill> between = f -> {
            Shapes.contour(f, 50, 0, 44, 60);
            square.accept(f);
            Shapes.contour(f, 3, 60, 30, 2);
        };
        due.holds("lines ahead of a contour and after it leave it as it is",
            Shapes.windings(between).equals(Shapes.windings(square)));
    }

    // "an edge from (x1, y1) to (x2, y2) with y1 <= y < y2 counts 1"

    private static void edgeDownHoldsItsUpperEndAlone() {
        for (int top = 0; top < 64; top += 9) {
            for (int bottom = top + 1; bottom <= 64; bottom += 7) {
                PolygonFill fill = new PolygonFill();
                Shapes.rectangle(fill, 10, top, 30, bottom);
                String name = "edge down from " + top + " to " + bottom;
                due.is(name + ", one above y1", fill.winding(20, top - 1), 0);
                due.is(name + ", at y1", fill.winding(20, top), 1);
                due.is(name + ", one above y2", fill.winding(20, bottom - 1), 1);
                due.is(name + ", at y2", fill.winding(20, bottom), 0);
                due.is(name + ", one below y2", fill.winding(20, bottom + 1), 0);
            }
        }
    }

    // "one with y2 <= y < y1 counts -1"

    private static void edgeUpHoldsItsUpperEndAlone() {
        for (int top = 0; top < 64; top += 9) {
            for (int bottom = top + 1; bottom <= 64; bottom += 7) {
                PolygonFill fill = new PolygonFill();
                Shapes.reversedRectangle(fill, 10, top, 30, bottom);
                String name = "edge up from " + bottom + " to " + top;
                due.is(name + ", one above y2", fill.winding(20, top - 1), 0);
                due.is(name + ", at y2", fill.winding(20, top), -1);
                due.is(name + ", one above y1", fill.winding(20, bottom - 1), -1);
                due.is(name + ", at y1", fill.winding(20, bottom), 0);
                due.is(name + ", one below y1", fill.winding(20, bottom + 1), 0);
            }
        }
    }

    private static void edgeAtOneHeightCountsNothing() {
        // A step: its edge at the height 20 lies right of the first two points, and over or under nothing else.
        PolygonFill step = new PolygonFill();
        Shapes.contour(step, 10, 10, 30, 10, 30, 20, 50, 20, 50, 30, 10, 30);
        due.is("left of the step at its height", step.winding(5, 20), 0);
        due.is("inside, left of the step at its height", step.winding(20, 20), 1);
        due.is("on the step", step.winding(40, 20), 1);
        due.is("one above the step", step.winding(40, 19), 0);

        String nothing = Shapes.windings(f -> { });
        due.holds("a contour at one height winds round nothing",
            Shapes.windings(f -> Shapes.contour(f, 10, 20, 50, 20, 64, 20, 0, 20)).equals(nothing));
        due.holds("nor one at the least height",
            Shapes.windings(f -> Shapes.contour(f, 10, 0, 50, 0, 64, 0)).equals(nothing));
        due.holds("nor one at the greatest height",
            Shapes.windings(f -> Shapes.contour(f, 10, 64, 50, 64, 64, 64)).equals(nothing));
    }

    private static void edgesMeetingAtACornerCountOnce() {
        PolygonFill diamond = new PolygonFill();
        Shapes.contour(diamond, 30, 10, 50, 30, 30, 50, 10, 30);
        due.is("left of the upper corner", diamond.winding(29, 10), 0);
        due.is("at the upper corner", diamond.winding(30, 10), 0);
        due.is("under the upper corner", diamond.winding(30, 11), 1);
        due.is("left of the left corner", diamond.winding(9, 30), 0);
        due.is("at the left corner", diamond.winding(10, 30), 1);
        due.is("between the left and the right corner", diamond.winding(30, 30), 1);
        due.is("next to the right corner", diamond.winding(49, 30), 1);
        due.is("at the right corner", diamond.winding(50, 30), 0);
        due.is("over the lower corner", diamond.winding(30, 49), 1);
        due.is("at the lower corner", diamond.winding(30, 50), 0);
        due.is("left of the lower corner", diamond.winding(29, 50), 0);
    }

    // "only if the edge's point at the height y lies to the right of the sample, strictly"

    private static void edgeCountsOnlyStrictlyToTheRight() {
        for (int x = 0; x <= 64; x++) {
            // The edge stands at x, and no other edge is right of a point that is asked.
            int left = Math.max(0, x - 2);
            PolygonFill down = new PolygonFill();
            Shapes.rectangle(down, left, 10, x, 50);
            PolygonFill up = new PolygonFill();
            Shapes.reversedRectangle(up, left, 10, x, 50);
            due.is("on the edge down at " + x, down.winding(x, 30), 0);
            due.is("on the edge up at " + x, up.winding(x, 30), 0);
            due.is("left of the edge down at " + x, down.winding(x - 1, 30), x > 0 ? 1 : 0);
            due.is("left of the edge up at " + x, up.winding(x - 1, 30), x > 0 ? -1 : 0);
            due.is("right of the edge down at " + x, down.winding(x + 1, 30), 0);
            due.is("right of the edge up at " + x, up.winding(x + 1, 30), 0);
        }
    }

    private static void edgeIsStrictByTheSmallestFraction() {
        // From (low, 0) to (low + 1, 64): the edge's point at the height y is at low + y / 64.
        for (int low = 1; low <= 63; low += 31) {
            PolygonFill down = new PolygonFill();
            Shapes.contour(down, low, 0, low + 1, 64, 0, 64, 0, 0);
            PolygonFill up = new PolygonFill();
            Shapes.contour(up, low, 0, 0, 0, 0, 64, low + 1, 64);
            due.is("0/64 right of " + low, down.winding(low, 0), 0);
            due.is("0/64 right of " + low + ", edge up", up.winding(low, 0), 0);
            for (int y = 1; y < 64; y++) {
                due.is(y + "/64 right of " + low, down.winding(low, y), 1);
                due.is(y + "/64 right of " + low + ", edge up", up.winding(low, y), -1);
                due.is(64 - y + "/64 left of " + (low + 1), down.winding(low + 1, y), 0);
                due.is(64 - y + "/64 left of " + (low + 1) + ", edge up", up.winding(low + 1, y), 0);
            }
        }
        // From (high, 0) to (high - 1, 64): at high - y / 64.
        for (int high = 2; high <= 64; high += 31) {
            PolygonFill down = new PolygonFill();
            Shapes.contour(down, high, 0, high - 1, 64, 0, 64, 0, 0);
            PolygonFill up = new PolygonFill();
            Shapes.contour(up, high, 0, 0, 0, 0, 64, high - 1, 64);
            due.is("0/64 left of " + high, down.winding(high, 0), 0);
            due.is("64/64 right of " + (high - 1), down.winding(high - 1, 0), 1);
            due.is("64/64 right of " + (high - 1) + ", edge up", up.winding(high - 1, 0), -1);
            for (int y = 1; y < 64; y++) {
                due.is(y + "/64 left of " + high, down.winding(high, y), 0);
                due.is(y + "/64 left of " + high + ", edge up", up.winding(high, y), 0);
                due.is(64 - y + "/64 right of " + (high - 1), down.winding(high - 1, y), 1);
                due.is(64 - y + "/64 right of " + (high - 1) + ", edge up", up.winding(high - 1, y), -1);
            }
        }
    }

    private static void edgeIsStrictAtEveryHeightAndSlant() {
        for (int top : new int[] {0, 1, 22, 41}) {
            for (int height : new int[] {1, 2, 3, 10, 23}) {
                for (int width = -31; width <= 31; width += 2) {
                    lastPointLeftOfASlant(32, top, width, height);
                }
            }
        }
    }

    /** On each height of an edge, the last point that has the edge strictly to its right, and the next one. */
    private static void lastPointLeftOfASlant(int x, int top, int width, int height) {
        int bottom = top + height;
        PolygonFill down = new PolygonFill();
        Shapes.contour(down, x, top, x + width, bottom, 0, bottom, 0, top);
        PolygonFill up = new PolygonFill();
        Shapes.contour(up, x + width, bottom, x, top, 0, top, 0, bottom);
        for (int y = top; y < bottom; y++) {
            // The edge is at x + (y - top) * width / height; a whole number there is itself no longer left of it.
            int last = x + Math.floorDiv((y - top) * width - 1, height);
            String name = "edge (" + x + ", " + top + "), (" + (x + width) + ", " + bottom + "), height " + y;
            due.is(name + ", down, at " + last, down.winding(last, y), 1);
            due.is(name + ", down, at " + (last + 1), down.winding(last + 1, y), 0);
            due.is(name + ", up, at " + last, up.winding(last, y), -1);
            due.is(name + ", up, at " + (last + 1), up.winding(last + 1, y), 0);
        }
        due.is("above the edge from " + top, down.winding(0, top - 1), 0);
        due.is("at the lower end " + bottom, down.winding(0, bottom), 0);
        due.is("above the edge up to " + top, up.winding(0, top - 1), 0);
        due.is("at the lower end " + bottom + ", edge up", up.winding(0, bottom), 0);
    }

    // "INSIDE by the rule NONZERO if its winding is not 0, by the rule ODD if its winding is odd"

    private static void nonzeroIsEveryWindingButZero() {
        for (int turns = -4; turns <= 4; turns++) {
            PolygonFill fill = new PolygonFill();
            for (int i = 0; i < Math.abs(turns); i++) {
                if (turns > 0) {
                    Shapes.contour(fill, 0, 0, 64, 0, 0, 64);
                } else {
                    Shapes.contour(fill, 0, 0, 0, 64, 64, 0);
                }
            }
            String name = " of winding " + turns;
            due.is("winding" + name, fill.winding(1, 1), turns);
            due.is("nonzero coverage" + name, fill.coverage(0, 0, false), turns != 0 ? 4 : 0);
            due.is("odd coverage" + name, fill.coverage(0, 0, true), Math.abs(turns) % 2 == 1 ? 4 : 0);
        }
        PolygonFill cancelled = new PolygonFill();
        Shapes.contour(cancelled, 0, 0, 64, 0, 0, 64);
        Shapes.contour(cancelled, 0, 0, 0, 64, 64, 0);
        due.is("nonzero coverage of 1 and -1", cancelled.coverage(0, 0, false), 0);
        due.is("odd coverage of 1 and -1", cancelled.coverage(0, 0, true), 0);
    }

    // "COVERAGE of a pixel is how many of its four samples are inside: 0 to 4."

    private static void coverageIsZeroToFour() {
        for (int place : new int[] {0, 7, 15}) {
            for (int samples = 0; samples < 16; samples++) {
                PolygonFill fill = Shapes.after(Shapes.samples(place, 15 - place, samples));
                String name = " of the samples " + samples + " in row " + place;
                due.is("coverage" + name, fill.coverage(place, 15 - place, false), Integer.bitCount(samples));
                due.is("odd coverage" + name, fill.coverage(place, 15 - place, true), Integer.bitCount(samples));
                due.is("area" + name, fill.area(false), Integer.bitCount(samples));
            }
        }
    }
}
