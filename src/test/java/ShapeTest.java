import java.util.function.Consumer;

/** The calls that make and change the shape: promises 2 to 6 and 14. */
public final class ShapeTest {
    private static final Due due = new Due();

    public static void main(String[] args) {
        promise2BeginCountsContours();
        promise2BeginStopsAtFourContours();
        promise2BeginStopsAtTwelveCorners();
        promise2BeginRefusesBadPoints();
        promise2ContoursAreApart();
        promise3CornerCountsCorners();
        promise3CornerNeedsAContour();
        promise3CornerStopsAtTwelve();
        promise3CornerRefusesBadPoints();
        promise3CornerGoesToTheLastContour();
        promise4MoveMovesAllCorners();
        promise4MoveReachesTheBorders();
        promise4MoveRefusesWhole();
        promise4MoveOfNoCorners();
        promise5MirrorExchangesXAndY();
        promise6ClearEndsTheShape();
        promise14BadPointComesBeforeFull();
        due.end();
    }

    private static void promise2BeginCountsContours() {
        PolygonFill fill = new PolygonFill();
        due.is("2: first begin at the least point", fill.begin(0, 0), 1);
        due.is("2: second begin at the greatest point", fill.begin(64, 64), 2);
        due.is("2: corner between", fill.corner(5, 5), 3);
        due.is("2: third begin", fill.begin(0, 64), 3);
        due.is("2: fourth begin", fill.begin(64, 0), 4);
        due.is("2: corners after four begins", fill.corner(1, 1), 6);
    }

    private static void promise2BeginStopsAtFourContours() {
        PolygonFill fill = new PolygonFill();
        for (int i = 1; i <= 4; i++) {
            due.is("2: begin " + i, fill.begin(i, i), i);
        }
        due.is("2: fifth begin", fill.begin(1, 1), PolygonFill.FULL);
        due.is("2: sixth begin", fill.begin(1, 1), PolygonFill.FULL);
        due.is("2: a full begin adds no corner", fill.corner(9, 9), 5);

        Consumer<PolygonFill> four = f -> {
            f.begin(1, 1);
            f.begin(2, 2);
            f.begin(3, 3);
            Shapes.contour(f, 8, 8, 40, 8, 40, 40);
        };
        Consumer<PolygonFill> fifth = f -> {
            four.accept(f);
            f.begin(60, 10);
        };
        due.holds("2: a full begin changes no winding", Shapes.windings(fifth).equals(Shapes.windings(four)));
    }

    private static void promise2BeginStopsAtTwelveCorners() {
        PolygonFill fill = new PolygonFill();
        fill.begin(0, 0);
        for (int i = 2; i <= 11; i++) {
            fill.corner(i, i);
        }
        due.is("2: begin as the twelfth corner", fill.begin(3, 3), 2);
        due.is("2: begin with twelve corners", fill.begin(3, 3), PolygonFill.FULL);
        due.is("2: corners stay twelve", fill.move(0, 0), 12);
    }

    private static void promise2BeginRefusesBadPoints() {
        PolygonFill fill = new PolygonFill();
        for (int bad : Shapes.NOT_COORDINATES) {
            due.is("2: begin(" + bad + ", 8)", fill.begin(bad, 8), PolygonFill.BAD_POINT);
            due.is("2: begin(8, " + bad + ")", fill.begin(8, bad), PolygonFill.BAD_POINT);
            due.is("2: begin(" + bad + ", " + bad + ")", fill.begin(bad, bad), PolygonFill.BAD_POINT);
        }
        due.is("2: bad points begin no contour", fill.corner(8, 8), PolygonFill.FULL);
        due.is("2: bad points add no corner", fill.move(0, 0), 0);
        due.is("2: the first good point", fill.begin(8, 8), 1);
    }

    private static void promise2ContoursAreApart() {
        PolygonFill fill = new PolygonFill();
        Shapes.rectangle(fill, 4, 4, 12, 12);
        Shapes.rectangle(fill, 40, 40, 48, 48);
        due.is("2: two squares of four pixels", fill.area(false), 32);
        due.is("2: nothing joins the squares", fill.winding(26, 26), 0);
        due.is("2: the first square is closed", fill.winding(5, 8), 1);
        due.is("2: the second square is closed", fill.winding(41, 44), 1);
    }

    private static void promise3CornerCountsCorners() {
        PolygonFill fill = new PolygonFill();
        fill.begin(1, 2);
        due.is("3: second corner", fill.corner(0, 64), 2);
        due.is("3: third corner", fill.corner(64, 0), 3);
        fill.begin(3, 4);
        due.is("3: corners of all contours count", fill.corner(0, 0), 5);
        due.is("3: equal corners count apart", fill.corner(0, 0), 6);
    }

    private static void promise3CornerNeedsAContour() {
        PolygonFill fill = new PolygonFill();
        due.is("3: corner without a contour", fill.corner(1, 1), PolygonFill.FULL);
        due.is("3: it was not kept", fill.move(0, 0), 0);
        due.is("3: begin after it", fill.begin(1, 1), 1);
        fill.clear();
        due.is("3: corner after clear", fill.corner(1, 1), PolygonFill.FULL);
    }

    private static void promise3CornerStopsAtTwelve() {
        PolygonFill fill = new PolygonFill();
        fill.begin(0, 0);
        for (int i = 2; i <= 12; i++) {
            due.is("3: corner " + i, fill.corner(i, 0), i);
        }
        due.is("3: thirteenth corner", fill.corner(1, 1), PolygonFill.FULL);
        due.is("3: corners stay twelve", fill.move(0, 0), 12);

        Consumer<PolygonFill> twelve = f -> {
            Shapes.rectangle(f, 4, 4, 12, 12);
            Shapes.rectangle(f, 20, 20, 30, 30);
            Shapes.rectangle(f, 40, 40, 50, 50);
        };
        Consumer<PolygonFill> thirteen = f -> {
            twelve.accept(f);
            f.corner(10, 60);
        };
        due.holds("3: a full corner changes no winding", Shapes.windings(thirteen).equals(Shapes.windings(twelve)));
    }

    private static void promise3CornerRefusesBadPoints() {
        PolygonFill fill = new PolygonFill();
        fill.begin(8, 8);
        for (int bad : Shapes.NOT_COORDINATES) {
            due.is("3: corner(" + bad + ", 8)", fill.corner(bad, 8), PolygonFill.BAD_POINT);
            due.is("3: corner(8, " + bad + ")", fill.corner(8, bad), PolygonFill.BAD_POINT);
            due.is("3: corner(" + bad + ", " + bad + ")", fill.corner(bad, bad), PolygonFill.BAD_POINT);
        }
        due.is("3: bad points add no corner", fill.corner(9, 9), 2);
    }

    private static void promise3CornerGoesToTheLastContour() {
        PolygonFill fill = new PolygonFill();
        Shapes.contour(fill, 0, 0, 16, 0, 16, 16);
        Shapes.contour(fill, 32, 32, 48, 32, 48, 48);
        due.is("3: below the second triangle's long side", fill.winding(33, 46), 0);
        fill.corner(32, 48);
        due.is("3: the corner squared the second triangle", fill.winding(33, 46), 1);
        due.is("3: and left the first as it was", fill.winding(1, 14), 0);
        due.is("3: the first is still there", fill.winding(14, 2), 1);
    }

    private static void promise4MoveMovesAllCorners() {
        Consumer<PolygonFill> moved = f -> {
            Shapes.contour(f, 10, 12, 30, 14, 20, 40);
            Shapes.contour(f, 33, 20, 50, 22, 47, 44, 35, 41);
            due.is("4: move(7, -5)", f.move(7, -5), 7);
        };
        Consumer<PolygonFill> drawnThere = f -> {
            Shapes.contour(f, 17, 7, 37, 9, 27, 35);
            Shapes.contour(f, 40, 15, 57, 17, 54, 39, 42, 36);
        };
        due.holds("4: every contour moves", Shapes.windings(moved).equals(Shapes.windings(drawnThere)));
    }

    private static void promise4MoveReachesTheBorders() {
        PolygonFill fill = new PolygonFill();
        Shapes.rectangle(fill, 20, 24, 28, 32);
        due.is("4: move to the left and upper border", fill.move(-20, -24), 4);
        due.is("4: one to the left of it", fill.move(-1, 0), PolygonFill.BAD_POINT);
        due.is("4: one above it", fill.move(0, -1), PolygonFill.BAD_POINT);
        due.is("4: covered at the upper left", fill.coverage(0, 0, false), 4);
        due.is("4: move to the right and lower border", fill.move(56, 56), 4);
        due.is("4: one to the right of it", fill.move(1, 0), PolygonFill.BAD_POINT);
        due.is("4: one below it", fill.move(0, 1), PolygonFill.BAD_POINT);
        due.is("4: covered at the lower right", fill.coverage(15, 15, false), 4);
        due.is("4: area is kept", fill.area(false), 16);
    }

    private static void promise4MoveRefusesWhole() {
        Consumer<PolygonFill> still = f -> {
            Shapes.contour(f, 10, 12, 30, 14, 20, 40);
            Shapes.contour(f, 33, 20, 60, 22, 47, 44);
        };
        // Some fail at one corner alone, the last ones only if a sum that wraps around is not taken for a good one.
        int[] moves = {5, 0, 0, 21, -11, 0, 0, -13, 5, 21, 65, 65,
            Integer.MAX_VALUE, 0, 0, Integer.MAX_VALUE, Integer.MIN_VALUE, 0, 0, Integer.MIN_VALUE,
            Integer.MAX_VALUE, Integer.MAX_VALUE, Integer.MIN_VALUE, Integer.MIN_VALUE};
        Consumer<PolygonFill> refused = f -> {
            still.accept(f);
            for (int i = 0; i < moves.length; i += 2) {
                due.is("4: move(" + moves[i] + ", " + moves[i + 1] + ")",
                    f.move(moves[i], moves[i + 1]), PolygonFill.BAD_POINT);
            }
        };
        due.holds("4: a refused move changes nothing", Shapes.windings(refused).equals(Shapes.windings(still)));
    }

    private static void promise4MoveOfNoCorners() {
        PolygonFill fill = new PolygonFill();
        due.is("4: no corner can leave", fill.move(1000, -1000), 0);
        due.is("4: however far", fill.move(Integer.MIN_VALUE, Integer.MAX_VALUE), 0);
        fill.begin(60, 60);
        fill.clear();
        due.is("4: a cleared corner can't leave", fill.move(10, 10), 0);
    }

    private static void promise5MirrorExchangesXAndY() {
        Consumer<PolygonFill> mirrored = f -> {
            Shapes.contour(f, 10, 12, 30, 14, 20, 40);
            Shapes.contour(f, 33, 0, 64, 22, 47, 44, 35, 41);
            f.mirror();
        };
        Consumer<PolygonFill> drawnThere = f -> {
            Shapes.contour(f, 12, 10, 14, 30, 40, 20);
            Shapes.contour(f, 0, 33, 22, 64, 44, 47, 41, 35);
        };
        due.holds("5: x and y change places", Shapes.windings(mirrored).equals(Shapes.windings(drawnThere)));

        PolygonFill fill = Shapes.after(mirrored);
        due.is("5: no corner comes or goes", fill.move(0, 0), 7);
        due.is("5: no contour comes or goes", fill.begin(1, 1), 3);

        Consumer<PolygonFill> once = f -> Shapes.contour(f, 10, 12, 30, 14, 20, 40);
        Consumer<PolygonFill> twice = f -> {
            once.accept(f);
            f.mirror();
            f.mirror();
        };
        due.holds("5: twice is not at all", Shapes.windings(twice).equals(Shapes.windings(once)));

        PolygonFill none = new PolygonFill();
        none.mirror();
        due.is("5: no shape to mirror", none.move(0, 0), 0);

        Consumer<PolygonFill> painted = f -> {
            once.accept(f);
            f.paint(99, false);
        };
        Consumer<PolygonFill> paintedThenMirrored = f -> {
            painted.accept(f);
            f.mirror();
        };
        due.holds("5: the raster is not mirrored",
            Shapes.pixels(paintedThenMirrored).equals(Shapes.pixels(painted)));
    }

    private static void promise6ClearEndsTheShape() {
        PolygonFill fill = new PolygonFill();
        fill.clear();
        due.is("6: clear of a new object", fill.begin(1, 1), 1);
        Shapes.rectangle(fill, 0, 0, 64, 64);
        fill.begin(2, 2);
        fill.begin(3, 3);
        due.is("6: full before", fill.begin(4, 4), PolygonFill.FULL);
        fill.wipe(7);
        fill.clear();
        due.is("6: no corners", fill.move(0, 0), 0);
        due.is("6: no area", fill.area(false), 0);
        due.is("6: no odd area", fill.area(true), 0);
        due.is("6: no winding", fill.winding(8, 8), 0);
        due.is("6: no contour to append to", fill.corner(8, 8), PolygonFill.FULL);
        due.is("6: the raster stays", fill.rowSum(5), 7 * 16);
        due.is("6: contours count anew", fill.begin(8, 8), 1);
        due.is("6: corners count anew", fill.corner(12, 8), 2);

        Consumer<PolygonFill> anew = f -> Shapes.contour(f, 10, 12, 30, 14, 20, 40, 12, 33);
        Consumer<PolygonFill> afterOthers = f -> {
            f.begin(5, 5);
            f.begin(6, 60);
            Shapes.rectangle(f, 9, 9, 50, 50);
            f.clear();
            anew.accept(f);
        };
        due.holds("6: nothing of an old shape is left", Shapes.windings(afterOthers).equals(Shapes.windings(anew)));
    }

    private static void promise14BadPointComesBeforeFull() {
        PolygonFill none = new PolygonFill();
        due.is("14: no contour and a bad x", none.corner(-1, 0), PolygonFill.BAD_POINT);
        due.is("14: no contour and a bad y", none.corner(0, 65), PolygonFill.BAD_POINT);

        PolygonFill contours = new PolygonFill();
        for (int i = 0; i < 4; i++) {
            contours.begin(i, i);
        }
        due.is("14: four contours and a bad x", contours.begin(65, 0), PolygonFill.BAD_POINT);
        due.is("14: four contours and a bad y", contours.begin(0, -1), PolygonFill.BAD_POINT);
        due.is("14: four contours and a good point", contours.begin(0, 0), PolygonFill.FULL);

        PolygonFill corners = new PolygonFill();
        corners.begin(0, 0);
        for (int i = 0; i < 11; i++) {
            corners.corner(i, i);
        }
        due.is("14: twelve corners, begin at a bad point", corners.begin(0, 65), PolygonFill.BAD_POINT);
        due.is("14: twelve corners, corner at a bad x", corners.corner(65, 0), PolygonFill.BAD_POINT);
        due.is("14: twelve corners, corner at a bad y", corners.corner(0, -1), PolygonFill.BAD_POINT);
        due.is("14: twelve corners, begin at a good point", corners.begin(0, 64), PolygonFill.FULL);
        due.is("14: twelve corners, corner at a good point", corners.corner(64, 0), PolygonFill.FULL);
    }
}
