import java.util.function.Consumer;

/** The boundary cases of the promises about the raster and of the asking calls, 7 to 13, a test for each sentence. */
public final class BoundaryRasterTest {
    private static final Due due = new Due();
    private static final int LEAST = Integer.MIN_VALUE;
    private static final int GREATEST = Integer.MAX_VALUE;
    private static final int[] FIRST_REFUSED_COLOURS = {-1, 256, LEAST, GREATEST};
    private static final int[] FIRST_REFUSED_PLACES = {-1, 16, LEAST, GREATEST};
    private static final int[] FIRST_REFUSED_COORDINATES = {-1, 65, LEAST, GREATEST};
    private static final int[] SOME_COLOURS = {0, 1, 2, 3, 4, 127, 128, 252, 253, 254, 255};

    public static void main(String[] args) {
        promise7LastColoursTaken();
        promise7FirstColoursRefused();
        promise7EveryCoverageMixesRoundedDown();
        promise7CoverageZeroKeepsEveryColour();
        promise7AnswersPixelsAboveZero();
        promise7NoShapePaintsNothing();
        promise7TheShapeStays();
        promise8LastColoursTaken();
        promise8FirstColoursRefused();
        promise9FirstAndLastPixelsTaken();
        promise9FirstPlacesRefused();
        promise10FirstAndLastPixelsTaken();
        promise10FirstPlacesRefused();
        promise10ShapeAsItIs();
        promise11EmptySmallestAndWhole();
        promise12BordersOfThePlane();
        promise12OutsideIsZero();
        promise13FirstAndLastRowsTaken();
        promise13FirstRowsRefused();
        promise13LeastAndGreatestSums();
        askingChangesNothing();
        due.end();
    }

    // "colour not in 0 to 255: BAD_COLOUR, nothing changes."

    private static void promise7LastColoursTaken() {
        for (int colour : new int[] {0, 1, 254, 255}) {
            PolygonFill fill = new PolygonFill();
            fill.wipe(100);
            Shapes.rectangle(fill, 0, 0, 64, 64);
            due.is("7: paint(" + colour + ", false)", fill.paint(colour, false), 256);
            due.is("7: a pixel painted " + colour, fill.pixel(15, 0), colour);
            fill.wipe(100);
            due.is("7: paint(" + colour + ", true)", fill.paint(colour, true), 256);
            due.is("7: a pixel painted oddly " + colour, fill.pixel(0, 15), colour);
        }
    }

    private static void promise7FirstColoursRefused() {
        for (int bad : FIRST_REFUSED_COLOURS) {
            State.staysInEveryState(due, "7: paint(" + bad + ", false)",
                f -> f.paint(bad, false), PolygonFill.BAD_COLOUR);
            State.staysInEveryState(due, "7: paint(" + bad + ", true)",
                f -> f.paint(bad, true), PolygonFill.BAD_COLOUR);
        }
    }

    // "every pixel whose coverage is k gets the colour (old * (4 - k) + colour * k) / 4, rounded down"

    private static void promise7EveryCoverageMixesRoundedDown() {
        for (int bits : new int[] {0, 1, 2, 4, 8, 3, 6, 7, 14, 15}) {
            int k = Integer.bitCount(bits);
            for (int old : SOME_COLOURS) {
                PolygonFill fill = Shapes.after(Shapes.samples(15, 0, bits));
                for (int colour : SOME_COLOURS) {
                    fill.wipe(old);
                    String name = "7: " + colour + " over " + old + " at coverage " + k;
                    due.is(name + ", answer", fill.paint(colour, k % 2 == 0), k > 0 ? 1 : 0);
                    due.is(name, fill.pixel(15, 0), Math.floorDiv(old * (4 - k) + colour * k, 4));
                    due.is(name + ", the pixel beside", fill.pixel(15, 1), old);
                }
            }
        }
    }

    private static void promise7CoverageZeroKeepsEveryColour() {
        for (int old = 0; old <= 255; old++) {
            PolygonFill fill = new PolygonFill();
            fill.wipe(old);
            Shapes.rectangle(fill, 4, 4, 8, 8);
            fill.paint(255 - old, false);
            due.is("7: uncovered pixel of colour " + old, fill.pixel(0, 0), old);
            due.is("7: covered pixel of colour " + old, fill.pixel(1, 1), 255 - old);
        }
    }

    // "Else answers how many pixels have a coverage above 0."

    private static void promise7AnswersPixelsAboveZero() {
        for (int bits = 0; bits < 16; bits++) {
            PolygonFill fill = Shapes.after(Shapes.samples(0, 15, bits));
            due.is("7: pixels of the samples " + bits, fill.paint(9, false), bits == 0 ? 0 : 1);
            due.is("7: pixels of the samples " + bits + " without a change of colour",
                fill.paint(fill.pixel(0, 15), true), bits == 0 ? 0 : 1);
        }
        PolygonFill whole = new PolygonFill();
        Shapes.rectangle(whole, 0, 0, 64, 64);
        due.is("7: all pixels", whole.paint(0, false), 256);
        Shapes.rectangle(whole, 0, 0, 64, 64);
        due.is("7: all pixels twice over", whole.paint(0, false), 256);
        due.is("7: all pixels twice over, odd", whole.paint(0, true), 0);

        // One sample of every pixel of a row and a column: the corner pixel counts once.
        PolygonFill angle = new PolygonFill();
        Shapes.contour(angle, 0, 0, 64, 0, 64, 2, 2, 2, 2, 64, 0, 64);
        due.is("7: a row and a column", angle.paint(255, false), 31);
    }

    private static void promise7NoShapePaintsNothing() {
        for (int colour : new int[] {0, 255}) {
            for (boolean odd : new boolean[] {false, true}) {
                String name = "paint(" + colour + ", " + odd + ")";
                State.stays(due, "7: no shape", f -> f.wipe(77), name, f -> f.paint(colour, odd), 0);
                State.stays(due, "7: one corner", f -> f.begin(33, 33), name, f -> f.paint(colour, odd), 0);
                State.stays(due, "7: two corners", f -> Shapes.contour(f, 0, 0, 64, 64), name,
                    f -> f.paint(colour, odd), 0);
            }
        }
    }

    private static void promise7TheShapeStays() {
        State.STATES.forEach((name, before) -> due.holds("7: the shape stays, " + name,
            State.of(before.andThen(f -> f.paint(200, true)).andThen(f -> f.wipe(1)))
                .equals(State.of(before.andThen(f -> f.wipe(1))))));
    }

    // "All pixels get a colour. BAD_COLOUR, nothing changes. Else answers 0."

    private static void promise8LastColoursTaken() {
        State.STATES.forEach((name, before) -> {
            for (int colour : new int[] {0, 1, 254, 255}) {
                due.is("8: " + name + ", wipe(" + colour + ")", Shapes.after(before).wipe(colour), 0);
                due.holds("8: " + name + ", all pixels are " + colour,
                    Shapes.pixels(before.andThen(f -> f.wipe(colour))).equals((colour + " ").repeat(256)));
            }
            due.holds("8: " + name + ", the shape stays",
                Shapes.windings(before.andThen(f -> f.wipe(255))).equals(Shapes.windings(before)));
        });
    }

    private static void promise8FirstColoursRefused() {
        for (int bad : FIRST_REFUSED_COLOURS) {
            State.staysInEveryState(due, "8: wipe(" + bad + ")", f -> f.wipe(bad), PolygonFill.BAD_COLOUR);
        }
    }

    // "row or column not in 0 to 15 is BAD_PIXEL", for pixel

    private static void promise9FirstAndLastPixelsTaken() {
        Consumer<PolygonFill> four = f -> {
            cornerPixel(f, 0, 0, 11);
            cornerPixel(f, 0, 60, 22);
            cornerPixel(f, 60, 0, 33);
            cornerPixel(f, 60, 60, 44);
        };
        PolygonFill fill = Shapes.after(four);
        due.is("9: first row, first column", fill.pixel(0, 0), 11);
        due.is("9: last row, first column", fill.pixel(15, 0), 22);
        due.is("9: first row, last column", fill.pixel(0, 15), 33);
        due.is("9: last row, last column", fill.pixel(15, 15), 44);
    }

    private static void cornerPixel(PolygonFill fill, int left, int top, int colour) {
        fill.clear();
        Shapes.rectangle(fill, left, top, left + 4, top + 4);
        fill.paint(colour, false);
    }

    private static void promise9FirstPlacesRefused() {
        for (int bad : FIRST_REFUSED_PLACES) {
            for (int good : new int[] {0, 15}) {
                State.staysInEveryState(due, "9: pixel(" + bad + ", " + good + ")",
                    f -> f.pixel(bad, good), PolygonFill.BAD_PIXEL);
                State.staysInEveryState(due, "9: pixel(" + good + ", " + bad + ")",
                    f -> f.pixel(good, bad), PolygonFill.BAD_PIXEL);
            }
            State.staysInEveryState(due, "9: pixel(" + bad + ", " + bad + ")",
                f -> f.pixel(bad, bad), PolygonFill.BAD_PIXEL);
        }
        // Places whose number in a raster of one list would be good.
        PolygonFill fill = new PolygonFill();
        due.is("9: pixel(-1, 31)", fill.pixel(-1, 31), PolygonFill.BAD_PIXEL);
        due.is("9: pixel(16, -16)", fill.pixel(16, -16), PolygonFill.BAD_PIXEL);
        due.is("9: pixel(1 << 28, 0)", fill.pixel(1 << 28, 0), PolygonFill.BAD_PIXEL);
    }

    // "row or column not in 0 to 15 is BAD_PIXEL", for coverage

    private static void promise10FirstAndLastPixelsTaken() {
        for (int row : new int[] {0, 15}) {
            for (int column : new int[] {0, 15}) {
                PolygonFill fill = Shapes.after(Shapes.samples(row, column, 7));
                for (int r : new int[] {0, 15}) {
                    for (int c : new int[] {0, 15}) {
                        int want = r == row && c == column ? 3 : 0;
                        String name = "10: shape in (" + row + ", " + column + "), coverage(" + r + ", " + c;
                        due.is(name + ", false)", fill.coverage(r, c, false), want);
                        due.is(name + ", true)", fill.coverage(r, c, true), want);
                    }
                }
            }
        }
        due.is("10: no shape", new PolygonFill().coverage(0, 0, false), 0);
        due.is("10: no shape, odd", new PolygonFill().coverage(15, 15, true), 0);
    }

    private static void promise10FirstPlacesRefused() {
        for (boolean odd : new boolean[] {false, true}) {
            for (int bad : FIRST_REFUSED_PLACES) {
                for (int good : new int[] {0, 15}) {
                    State.staysInEveryState(due, "10: coverage(" + bad + ", " + good + ", " + odd + ")",
                        f -> f.coverage(bad, good, odd), PolygonFill.BAD_PIXEL);
                    State.staysInEveryState(due, "10: coverage(" + good + ", " + bad + ", " + odd + ")",
                        f -> f.coverage(good, bad, odd), PolygonFill.BAD_PIXEL);
                }
                State.staysInEveryState(due, "10: coverage(" + bad + ", " + bad + ", " + odd + ")",
                    f -> f.coverage(bad, bad, odd), PolygonFill.BAD_PIXEL);
            }
        }
    }

    // "The pixel's coverage by the shape as it is."

    private static void promise10ShapeAsItIs() {
        PolygonFill fill = new PolygonFill();
        due.is("10: before the shape", fill.coverage(0, 0, false), 0);
        Shapes.contour(fill, 0, 0, 4, 0);
        due.is("10: two corners", fill.coverage(0, 0, false), 0);
        fill.corner(4, 4);
        due.is("10: three corners", fill.coverage(0, 0, false), 3);
        fill.corner(0, 4);
        due.is("10: four corners", fill.coverage(0, 0, false), 4);
        fill.move(-1, 0);
        due.is("10: after a refused move", fill.coverage(0, 0, false), 4);
        fill.corner(65, 4);
        due.is("10: after a refused corner", fill.coverage(0, 0, false), 4);
        fill.move(2, 2);
        due.is("10: after a move", fill.coverage(0, 0, false), 1);
        fill.clear();
        due.is("10: after clear", fill.coverage(0, 0, false), 0);
    }

    // "The sum of all pixels' coverages."

    private static void promise11EmptySmallestAndWhole() {
        due.is("11: no shape", new PolygonFill().area(false), 0);
        due.is("11: no shape, odd", new PolygonFill().area(true), 0);
        for (int row : new int[] {0, 15}) {
            for (int column : new int[] {0, 15}) {
                for (int bit = 0; bit < 4; bit++) {
                    PolygonFill fill = Shapes.after(Shapes.samples(row, column, 1 << bit));
                    due.is("11: one sample in (" + row + ", " + column + ")", fill.area(false), 1);
                    due.is("11: one sample in (" + row + ", " + column + "), odd", fill.area(true), 1);
                }
            }
        }
        PolygonFill whole = new PolygonFill();
        Shapes.rectangle(whole, 0, 0, 64, 64);
        due.is("11: all samples", whole.area(false), 1024);
        due.is("11: all samples, odd", whole.area(true), 1024);
        Shapes.rectangle(whole, 0, 0, 64, 64);
        due.is("11: all samples twice over", whole.area(false), 1024);
        due.is("11: all samples twice over, odd", whole.area(true), 0);

        // Every sample is at 1 to 63: one unit less on each side still holds all of them on the left and above.
        PolygonFill inner = new PolygonFill();
        Shapes.rectangle(inner, 1, 1, 64, 64);
        due.is("11: from the first sample on", inner.area(false), 1024);
        inner.move(-1, -1);
        due.is("11: up to the last sample, which is not right of the edge", inner.area(false), 31 * 31);
    }

    // "The winding of the point (x, y), as for a sample"

    private static void promise12BordersOfThePlane() {
        PolygonFill fill = new PolygonFill();
        Shapes.rectangle(fill, 0, 0, 64, 64);
        for (int at = 0; at <= 64; at++) {
            int inside = at < 64 ? 1 : 0;
            due.is("12: winding(0, " + at + ")", fill.winding(0, at), inside);
            due.is("12: winding(" + at + ", 0)", fill.winding(at, 0), inside);
            due.is("12: winding(63, " + at + ")", fill.winding(63, at), inside);
            due.is("12: winding(" + at + ", 63)", fill.winding(at, 63), inside);
            due.is("12: winding(64, " + at + ")", fill.winding(64, at), 0);
            due.is("12: winding(" + at + ", 64)", fill.winding(at, 64), 0);
        }
    }

    // "x or y not in 0 to 64: 0."

    private static void promise12OutsideIsZero() {
        for (int bad : FIRST_REFUSED_COORDINATES) {
            for (int good : new int[] {0, 15, 64}) {
                State.staysInEveryState(due, "12: winding(" + bad + ", " + good + ")", f -> f.winding(bad, good), 0);
                State.staysInEveryState(due, "12: winding(" + good + ", " + bad + ")", f -> f.winding(good, bad), 0);
            }
            State.staysInEveryState(due, "12: winding(" + bad + ", " + bad + ")", f -> f.winding(bad, bad), 0);
        }
        // Far outside, where a product of an edge's height and the way to it would wrap around.
        PolygonFill fill = new PolygonFill();
        Shapes.contour(fill, 0, 0, 64, 0, 64, 64, 1, 64, 30, 31);
        for (int shift = 7; shift < 32; shift++) {
            for (int more = -1; more <= 1; more++) {
                int far = (1 << shift) + more;
                due.is("12: winding(" + far + ", 32)", fill.winding(far, 32), 0);
                due.is("12: winding(" + -far + ", 32)", fill.winding(-far, 32), 0);
                due.is("12: winding(32, " + far + ")", fill.winding(32, far), 0);
                due.is("12: winding(32, " + -far + ")", fill.winding(32, -far), 0);
            }
        }
    }

    // "The sum of all colours of a row; BAD_PIXEL."

    private static void promise13FirstAndLastRowsTaken() {
        PolygonFill fill = new PolygonFill();
        cornerPixel(fill, 0, 0, 1);
        cornerPixel(fill, 60, 0, 20);
        cornerPixel(fill, 0, 60, 100);
        cornerPixel(fill, 60, 60, 55);
        due.is("13: the first row", fill.rowSum(0), 21);
        due.is("13: the second row", fill.rowSum(1), 0);
        due.is("13: the last row but one", fill.rowSum(14), 0);
        due.is("13: the last row", fill.rowSum(15), 155);
    }

    private static void promise13FirstRowsRefused() {
        for (int bad : FIRST_REFUSED_PLACES) {
            State.staysInEveryState(due, "13: rowSum(" + bad + ")", f -> f.rowSum(bad), PolygonFill.BAD_PIXEL);
        }
        due.is("13: rowSum(1 << 28)", new PolygonFill().rowSum(1 << 28), PolygonFill.BAD_PIXEL);
    }

    private static void promise13LeastAndGreatestSums() {
        PolygonFill fill = new PolygonFill();
        for (int row = 0; row < 16; row++) {
            due.is("13: least sum of row " + row, fill.rowSum(row), 0);
        }
        fill.wipe(255);
        for (int row = 0; row < 16; row++) {
            due.is("13: greatest sum of row " + row, fill.rowSum(row), 4080);
        }
    }

    // "The calls below change nothing."

    private static void askingChangesNothing() {
        State.STATES.forEach((name, before) -> {
            String state = State.of(before);
            due.holds("pixel changes nothing, " + name, State.of(before.andThen(f -> f.pixel(15, 0))).equals(state));
            due.holds("coverage changes nothing, " + name,
                State.of(before.andThen(f -> f.coverage(0, 15, true))).equals(state));
            due.holds("area changes nothing, " + name, State.of(before.andThen(f -> f.area(false))).equals(state));
            due.holds("odd area changes nothing, " + name, State.of(before.andThen(f -> f.area(true))).equals(state));
            due.holds("winding changes nothing, " + name,
                State.of(before.andThen(f -> f.winding(64, 0))).equals(state));
            due.holds("rowSum changes nothing, " + name, State.of(before.andThen(f -> f.rowSum(15))).equals(state));
        });
    }
}
