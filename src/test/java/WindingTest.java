import java.util.function.Consumer;

/** What the shape covers: promises 10, 11 and 12, and that asking changes nothing. */
public final class WindingTest {
    private static final Due due = new Due();

    public static void main(String[] args) {
        promise10CoverageCountsSamples();
        promise10CoverageFollowsTheRule();
        promise10CoverageTellsRowAndColumn();
        promise10CoverageIsOfTheShapeAsItIs();
        promise10CoverageRefusesBadPlaces();
        promise11AreaAddsCoverages();
        promise11AreaFollowsTheRule();
        promise12WindingHasASign();
        promise12WindingOfBorders();
        promise12WindingOfSlantedEdges();
        promise12WindingAddsUp();
        promise12WindingOfThinContours();
        promise12WindingOutsideThePlane();
        askingChangesNothing();
        due.end();
    }

    private static void promise10CoverageCountsSamples() {
        // A sample on the left or upper border is inside, one on the right or lower border is not:
        // an edge counts only if it lies strictly to the right, and its lower end does not belong to it.
        int[] left = {8, 9, 10, 11, 8, 8, 8, 8};
        int[] right = {12, 12, 12, 12, 11, 10, 9, 8};
        int[] columns = {2, 2, 1, 1, 1, 1, 0, 0};
        int[] top = {8, 9, 10, 11, 12, 8, 8, 8, 8};
        int[] bottom = {12, 12, 12, 12, 12, 11, 10, 9, 8};
        int[] rows = {2, 2, 1, 1, 0, 1, 1, 0, 0};
        for (int i = 0; i < left.length; i++) {
            for (int j = 0; j < top.length; j++) {
                PolygonFill fill = new PolygonFill();
                Shapes.rectangle(fill, left[i], top[j], right[i], bottom[j]);
                String name = "10: x " + left[i] + " to " + right[i] + ", y " + top[j] + " to " + bottom[j];
                due.is(name, fill.coverage(2, 2, false), columns[i] * rows[j]);
                due.is(name + " odd", fill.coverage(2, 2, true), columns[i] * rows[j]);
            }
        }
    }

    private static void promise10CoverageFollowsTheRule() {
        PolygonFill twice = new PolygonFill();
        Shapes.rectangle(twice, 0, 0, 8, 8);
        Shapes.rectangle(twice, 0, 0, 4, 8);
        due.is("10: winding 2, nonzero", twice.coverage(0, 0, false), 4);
        due.is("10: winding 2, odd", twice.coverage(0, 0, true), 0);
        due.is("10: winding 1, nonzero", twice.coverage(0, 1, false), 4);
        due.is("10: winding 1, odd", twice.coverage(0, 1, true), 4);

        PolygonFill back = new PolygonFill();
        Shapes.reversedRectangle(back, 0, 0, 8, 8);
        due.is("10: winding -1, nonzero", back.coverage(0, 0, false), 4);
        due.is("10: winding -1, odd", back.coverage(0, 0, true), 4);
        Shapes.reversedRectangle(back, 0, 0, 4, 8);
        due.is("10: winding -2, nonzero", back.coverage(0, 0, false), 4);
        due.is("10: winding -2, odd", back.coverage(0, 0, true), 0);
        Shapes.reversedRectangle(back, 0, 0, 4, 8);
        due.is("10: winding -3, nonzero", back.coverage(1, 0, false), 4);
        due.is("10: winding -3, odd", back.coverage(1, 0, true), 4);

        PolygonFill hole = new PolygonFill();
        Shapes.rectangle(hole, 0, 0, 12, 12);
        Shapes.reversedRectangle(hole, 4, 4, 8, 8);
        due.is("10: winding 0 in a hole, nonzero", hole.coverage(1, 1, false), 0);
        due.is("10: winding 0 in a hole, odd", hole.coverage(1, 1, true), 0);
        due.is("10: beside the hole", hole.coverage(1, 0, false), 4);
    }

    private static void promise10CoverageTellsRowAndColumn() {
        PolygonFill fill = new PolygonFill();
        Shapes.rectangle(fill, 20, 36, 24, 38);
        due.is("10: row 9, column 5", fill.coverage(9, 5, false), 2);
        due.is("10: row 5, column 9", fill.coverage(5, 9, false), 0);
        fill.move(40, 26);
        due.is("10: row 15, column 15", fill.coverage(15, 15, false), 2);
        fill.move(-60, -62);
        due.is("10: row 0, column 0", fill.coverage(0, 0, true), 2);
    }

    private static void promise10CoverageIsOfTheShapeAsItIs() {
        PolygonFill fill = new PolygonFill();
        Shapes.rectangle(fill, 0, 0, 4, 4);
        fill.paint(100, false);
        due.is("10: painted", fill.coverage(0, 0, false), 4);
        fill.wipe(0);
        due.is("10: wiped", fill.coverage(0, 0, false), 4);
        fill.move(4, 0);
        due.is("10: moved away", fill.coverage(0, 0, false), 0);
        due.is("10: moved here", fill.coverage(0, 1, false), 4);
        fill.mirror();
        due.is("10: mirrored here", fill.coverage(1, 0, false), 4);
        fill.clear();
        due.is("10: cleared", fill.coverage(1, 0, false), 0);
    }

    private static void promise10CoverageRefusesBadPlaces() {
        PolygonFill fill = new PolygonFill();
        Shapes.rectangle(fill, 0, 0, 64, 64);
        for (int bad : Shapes.NOT_PLACES) {
            due.is("10: coverage(" + bad + ", 0)", fill.coverage(bad, 0, false), PolygonFill.BAD_PIXEL);
            due.is("10: coverage(0, " + bad + ")", fill.coverage(0, bad, false), PolygonFill.BAD_PIXEL);
            due.is("10: odd coverage(" + bad + ", 15)", fill.coverage(bad, 15, true), PolygonFill.BAD_PIXEL);
            due.is("10: odd coverage(15, " + bad + ")", fill.coverage(15, bad, true), PolygonFill.BAD_PIXEL);
        }
    }

    private static void promise11AreaAddsCoverages() {
        PolygonFill fill = new PolygonFill();
        due.is("11: no shape", fill.area(false), 0);
        Shapes.rectangle(fill, 0, 0, 64, 64);
        due.is("11: the whole raster", fill.area(false), 1024);
        due.is("11: the whole raster, odd", fill.area(true), 1024);

        PolygonFill some = new PolygonFill();
        Shapes.contour(some, 3, 5, 60, 11, 41, 63, 20, 30, 7, 58);
        int sum = 0;
        for (int row = 0; row < 16; row++) {
            for (int column = 0; column < 16; column++) {
                sum += some.coverage(row, column, false);
            }
        }
        due.is("11: the sum of all coverages", some.area(false), sum);

        PolygonFill right = new PolygonFill();
        Shapes.contour(right, 0, 0, 64, 0, 64, 64);
        // On each of the 32 lines of samples those on the slanted edge or right of it are inside.
        due.is("11: half of the raster", right.area(false), 32 * 33 / 2);
    }

    private static void promise11AreaFollowsTheRule() {
        PolygonFill fill = new PolygonFill();
        Shapes.rectangle(fill, 0, 0, 16, 16);
        Shapes.rectangle(fill, 8, 8, 24, 24);
        due.is("11: nonzero", fill.area(false), 64 + 64 - 16);
        due.is("11: odd", fill.area(true), 64 + 64 - 32);
        Shapes.reversedRectangle(fill, 8, 8, 16, 16);
        due.is("11: nonzero with a step back", fill.area(false), 64 + 64 - 16);
        due.is("11: odd with a step back", fill.area(true), 64 + 64 - 16);
    }

    private static void promise12WindingHasASign() {
        PolygonFill fill = new PolygonFill();
        Shapes.rectangle(fill, 10, 10, 20, 20);
        // The edge on the right goes from a small y to a great one.
        due.is("12: this way round", fill.winding(15, 15), 1);
        fill.mirror();
        due.is("12: that way round", fill.winding(15, 15), -1);
    }

    private static void promise12WindingOfBorders() {
        PolygonFill fill = new PolygonFill();
        Shapes.rectangle(fill, 10, 20, 30, 40);
        due.is("12: left of it", fill.winding(9, 30), 0);
        due.is("12: on the left edge", fill.winding(10, 30), 1);
        due.is("12: next to the right edge", fill.winding(29, 30), 1);
        due.is("12: on the right edge", fill.winding(30, 30), 0);
        due.is("12: right of it", fill.winding(31, 30), 0);
        due.is("12: above it", fill.winding(20, 19), 0);
        due.is("12: on the upper edge", fill.winding(20, 20), 1);
        due.is("12: next to the lower edge", fill.winding(20, 39), 1);
        due.is("12: on the lower edge", fill.winding(20, 40), 0);

        PolygonFill whole = new PolygonFill();
        Shapes.rectangle(whole, 0, 0, 64, 64);
        due.is("12: the least point", whole.winding(0, 0), 1);
        due.is("12: the greatest point", whole.winding(64, 64), 0);
        due.is("12: the greatest x", whole.winding(64, 0), 0);
        due.is("12: the greatest y", whole.winding(0, 64), 0);
        due.is("12: one less", whole.winding(63, 63), 1);
    }

    private static void promise12WindingOfSlantedEdges() {
        // The slanted edge from (0, 0) to (10, 30) crosses the height y at x = y / 3.
        PolygonFill fill = new PolygonFill();
        Shapes.contour(fill, 0, 0, 10, 30, 0, 30);
        due.is("12: crossing at 1/3, strictly right of 0", fill.winding(0, 1), 1);
        due.is("12: crossing at 2/3, strictly right of 0", fill.winding(0, 2), 1);
        due.is("12: crossing at 1, not right of 1", fill.winding(1, 3), 0);
        due.is("12: crossing at 4/3, strictly right of 1", fill.winding(1, 4), 1);
        due.is("12: crossing at 29/3, strictly right of 9", fill.winding(9, 29), 1);
        due.is("12: crossing at 29/3, not right of 10", fill.winding(10, 29), 0);
        due.is("12: crossing at 0 itself", fill.winding(0, 0), 0);

        // The same edge away from the borders, from (3, 7) to (13, 37): crossing at 3 + (y - 7) / 3.
        PolygonFill away = new PolygonFill();
        Shapes.contour(away, 3, 7, 13, 37, 3, 37);
        due.is("12: crossing at 10/3, strictly right of 3", away.winding(3, 8), 1);
        due.is("12: crossing at 10/3, not right of 4", away.winding(4, 8), 0);
        due.is("12: crossing at 4, not right of 4", away.winding(4, 10), 0);
        due.is("12: crossing at 13/3, strictly right of 4", away.winding(4, 11), 1);
        due.is("12: crossing at 38/3, strictly right of 12", away.winding(12, 36), 1);
        due.is("12: crossing at 38/3, not right of 13", away.winding(13, 36), 0);
        due.is("12: left of both edges", away.winding(2, 20), 0);

        // The other slant and the other direction: from (10, 30) to (20, 0), crossing at 20 - y / 3.
        PolygonFill back = new PolygonFill();
        Shapes.contour(back, 10, 30, 20, 0, 0, 0);
        due.is("12: crossing at 59/3, strictly right of 19", back.winding(19, 1), -1);
        due.is("12: crossing at 59/3, not right of 20", back.winding(20, 1), 0);
        due.is("12: crossing at 19, not right of 19", back.winding(19, 3), 0);
        due.is("12: crossing at 19, right of 18", back.winding(18, 3), -1);
    }

    private static void promise12WindingAddsUp() {
        PolygonFill fill = new PolygonFill();
        Shapes.rectangle(fill, 0, 0, 30, 30);
        Shapes.rectangle(fill, 5, 5, 25, 25);
        Shapes.rectangle(fill, 10, 10, 20, 20);
        due.is("12: in three", fill.winding(15, 15), 3);
        due.is("12: in two", fill.winding(7, 7), 2);
        due.is("12: in one", fill.winding(2, 2), 1);
        due.is("12: in none", fill.winding(40, 15), 0);
        fill.mirror();
        due.is("12: in three the other way round", fill.winding(15, 15), -3);

        PolygonFill knot = new PolygonFill();
        Shapes.contour(knot, 0, 0, 20, 20, 20, 0, 0, 20);
        due.is("12: one loop of a crossed contour", knot.winding(18, 10), -1);
        due.is("12: the other loop", knot.winding(2, 10), 1);
    }

    private static void promise12WindingOfThinContours() {
        Consumer<PolygonFill> dots = f -> {
            f.begin(10, 10);
            f.begin(64, 64);
            f.begin(0, 0);
        };
        Consumer<PolygonFill> lines = f -> {
            Shapes.contour(f, 10, 3, 50, 60);
            Shapes.contour(f, 50, 3, 10, 60);
            Shapes.contour(f, 20, 0, 20, 64);
        };
        String nothing = Shapes.windings(f -> { });
        due.holds("12: a contour of one corner winds round nothing", Shapes.windings(dots).equals(nothing));
        due.holds("12: a contour of two corners winds round nothing", Shapes.windings(lines).equals(nothing));
    }

    private static void promise12WindingOutsideThePlane() {
        PolygonFill fill = new PolygonFill();
        Shapes.rectangle(fill, 0, 0, 64, 64);
        for (int bad : Shapes.NOT_COORDINATES) {
            due.is("12: winding(" + bad + ", 8)", fill.winding(bad, 8), 0);
            due.is("12: winding(8, " + bad + ")", fill.winding(8, bad), 0);
            due.is("12: winding(" + bad + ", " + bad + ")", fill.winding(bad, bad), 0);
        }
        // Left of a lone rising or falling edge a sum without the test of x would not be 0.
        fill.clear();
        Shapes.contour(fill, 0, 0, 64, 0, 0, 64);
        due.is("12: winding(-1, 60)", fill.winding(-1, 60), 0);
        due.is("12: winding(8, -1)", fill.winding(8, -1), 0);
    }

    private static void askingChangesNothing() {
        Consumer<PolygonFill> still = f -> {
            Shapes.contour(f, 3, 5, 60, 11, 41, 63, 20, 30, 7, 58);
            f.paint(90, true);
        };
        Consumer<PolygonFill> asked = f -> {
            still.accept(f);
            f.pixel(2, 2);
            f.pixel(-1, 2);
            f.coverage(2, 2, true);
            f.coverage(2, 16, false);
            f.area(true);
            f.area(false);
            f.winding(20, 20);
            f.winding(65, 20);
            f.rowSum(3);
            f.rowSum(16);
        };
        due.holds("9 to 13: the raster stays", Shapes.pixels(asked).equals(Shapes.pixels(still)));
        due.holds("9 to 13: the shape stays", Shapes.windings(asked).equals(Shapes.windings(still)));
        PolygonFill fill = Shapes.after(asked);
        due.is("9 to 13: corners", fill.corner(1, 1), 6);
        due.is("9 to 13: contours", fill.begin(1, 1), 2);
    }
}
