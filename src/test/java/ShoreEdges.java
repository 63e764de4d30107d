import java.util.List;

/** Edges of THE SHORE and of those who help: promises 8, 9, 14, 15 and 29 to 36. */
final class ShoreEdges {
    private static final String IAE = "IllegalArgumentException";
    private static final String ISE = "IllegalStateException";
    private static final String IOOBE = "IndexOutOfBoundsException";
    private static final String NSEE = "NoSuchElementException";
    private static final int LEAST = Integer.MIN_VALUE;
    private static final int MOST = Integer.MAX_VALUE;

    private ShoreEdges() {
    }

    static void look() {
        cell();
        person();
        boardedBears();
        boardedHole();
        far();
        walk();
        board();
        way();
        reach();
        edge();
        signs();
        sinking();
        holes();
        rope();
        placed();
    }

    private static void due(String what, Object want, Check.Call call) {
        Doc.due(what, want, call);
    }

    private static long bits(int... cells) {
        long all = 0;
        for (int cell : cells) {
            all |= 1L << cell;
        }
        return all;
    }

    /** All CELLS of a row of Y or of a column of X bear N. */
    private static String rowBears(int y, int n) {
        StringBuilder text = new StringBuilder();
        for (int x = 0; x < 8; x++) {
            text.append(x == 0 ? "" : ";").append("bears ").append(x).append(' ').append(y).append(' ').append(n);
        }
        return text.toString();
    }

    private static WaistSand toldRows(String last, int... bears) {
        WaistSand x = new WaistSand();
        for (int y = 0; y < bears.length; y++) {
            Check.beach(x, rowBears(y, bears[y]));
        }
        Check.due("beach of " + last, Check.beach(x, last) instanceof Integer, true);
        return x;
    }

    private static void cell() {
        Doc.says("Of a CELL what 0 BEARS, 1 1 with a HEAP, 2 1 with SHINE, 3 PEOPLE on it, as bits. NoSuchElementException: another what.", 8);
        WaistSand x = Check.told("bears 0 0 0;bears 7 7 9;heap 0 0;heap 0 0;shine 7 7;person 1 at 7 7;person 1 at 0 0;person 1 at 7 7;"
            + "person 1 at 7 7;person 1 at 7 7;person 1 at 7 7");
        due("CELL 0", List.of(0, 1, 0, 0b000010), () -> List.of(x.cell(0, 0), x.cell(0, 1), x.cell(0, 2), x.cell(0, 3)));
        due("CELL 63", List.of(9, 0, 1, 0b111101), () -> List.of(x.cell(63, 0), x.cell(63, 1), x.cell(63, 2), x.cell(63, 3)));
        due("CELL 1", List.of(5, 0, 0, 0), () -> List.of(x.cell(1, 0), x.cell(1, 1), x.cell(1, 2), x.cell(1, 3)));
        for (int what : new int[] {-1, 4, LEAST, MOST}) {
            due("what " + what, NSEE, () -> x.cell(63, what));
        }
        Doc.says("IndexOutOfBoundsException: there is no such LEG, MOVE, CELL, PERSON.", 8);
        for (int cell : new int[] {-1, 64, LEAST, MOST}) {
            due("CELL " + cell, IOOBE, () -> x.cell(cell, 0));
            due("CELL " + cell + " ahead of what", IOOBE, () -> x.cell(cell, 4));
        }
    }

    private static void person() {
        Doc.says("Of a PERSON what 0 WEIGHT, 1 the CELL, 2 BOARDED (NONE), 3 FAR. NoSuchElementException: another what.", 9);
        WaistSand x = Check.told("person 1 at 0 0;person 9 at 7 7");
        due("PERSON 0", List.of(1, 0, 0, 14), () -> List.of(x.person(0, 0), x.person(0, 1), x.person(0, 2), x.person(0, 3)));
        due("PERSON 1", List.of(9, 63, -1, 0), () -> List.of(x.person(1, 0), x.person(1, 1), x.person(1, 2), x.person(1, 3)));
        for (int what : new int[] {-1, 4, LEAST, MOST}) {
            due("what " + what, NSEE, () -> x.person(1, what));
        }
        Doc.says("IndexOutOfBoundsException: there is no such LEG, MOVE, CELL, PERSON.", 9);
        for (int no : new int[] {-1, 2, 5, 6, LEAST, MOST}) {
            due("PERSON " + no, IOOBE, () -> x.person(no, 0));
            due("PERSON " + no + " ahead of what", IOOBE, () -> x.person(no, 4));
        }
        due("nobody", IOOBE, () -> new WaistSand().person(0, 0));
        WaistSand six = Check.told("person 1 at 0 0;".repeat(5) + "person 7 at 0 0");
        due("PERSON 5", 7, () -> six.person(5, 0));
        due("PERSON 6", IOOBE, () -> six.person(6, 0));
    }

    /** One of WEIGHT 6 at X 0 Y 3, THE HOLE at X 3 Y 3, the way along Y 3 bears n, all else nothing. */
    private static WaistSand lane(int n, int boards) {
        return toldRows("person 6 at 0 3;boards " + boards, 0, 0, 0, n, 0, 0, 0, 0);
    }

    private static void boardedBears() {
        Doc.says("BOARDED: the fewest BOARDS to be laid on CELLS, each once, so that a PERSON can come so (not quick) to a CELL beside THE HOLE,", 9);
        due("6 bears: none", 0, () -> lane(6, 9).person(0, 2));
        due("5 bears not, nor for one who is quick: two", 2, () -> lane(5, 9).person(0, 2));
        due("0 may be laid", 0, () -> lane(6, 0).person(0, 2));
        Doc.says("a CELL with one BEARS 3 more, 9 at most;", 9);
        due("4 and 3", 2, () -> lane(4, 9).person(0, 2));
        due("3 and 3", 2, () -> lane(3, 9).person(0, 2));
        due("2 and 3; two on one CELL are not laid", -1, () -> lane(2, 9).person(0, 2));
        due("9 bears 9", 0, () -> toldRows("person 9 at 0 3", 9, 9, 9, 9, 9, 9, 9, 9).person(0, 2));
        due("7 and 3 bear 9", 2, () -> toldRows("person 9 at 0 3;boards 9", 0, 0, 0, 7, 0, 0, 0, 0).person(0, 2));
        due("6 and 3 bear 9", 2, () -> toldRows("person 9 at 0 3;boards 9", 0, 0, 0, 6, 0, 0, 0, 0).person(0, 2));
        due("5 and 3 do not", -1, () -> toldRows("person 9 at 0 3;boards 9", 0, 0, 0, 5, 0, 0, 0, 0).person(0, 2));
        due("a light one: 0 and 3", 2, () -> toldRows("person 3 at 0 3;boards 9", 0, 0, 0, 0, 0, 0, 0, 0).person(0, 2));
        due("4 is too heavy", -1, () -> toldRows("person 4 at 0 3;boards 9", 0, 0, 0, 0, 0, 0, 0, 0).person(0, 2));
        Doc.says("none (also, if there are fewer BOARDS).", 9);
        due("1 of 2", -1, () -> lane(3, 1).person(0, 2));
        due("2 of 2", 2, () -> lane(3, 2).person(0, 2));
        due("3 of 2", 2, () -> lane(3, 3).person(0, 2));
        due("9 of 9, from corner to corner", 9, () -> toldRows("person 3 at 7 7;boards 9;hole 2 2", 0, 0, 0, 0, 0, 0, 0, 0).person(0, 2));
        due("9 of 10", -1, () -> toldRows("person 3 at 7 7;boards 9;hole 1 2", 0, 0, 0, 0, 0, 0, 0, 0).person(0, 2));
        WaistSand x = lane(3, 2);
        x.person(0, 2);
        due("none is laid", List.of(2, 3), () -> List.of(x.count(14), x.cell(25, 0)));
    }

    private static void boardedHole() {
        Doc.says("never into THE HOLE (but from there, if one stands in it):", 9);
        due("one stands beside it", 0, () -> toldRows("person 9 at 2 3", 0, 0, 0, 0, 0, 0, 0, 0).person(0, 2));
        due("one stands two steps from it", -1, () -> toldRows("person 9 at 1 3", 0, 0, 0, 0, 0, 0, 0, 0).person(0, 2));
        due("one stands aslant of it", 1, () -> toldRows("person 3 at 2 2;boards 1", 0, 0, 0, 0, 0, 0, 0, 0).person(0, 2));
        due("one stands in it, beside bears", 0, () -> toldRows("person 9 at 3 3", 0, 0, 9, 0, 0, 0, 0, 0).person(0, 2));
        due("one stands in it, a board beside", 1, () -> toldRows("person 9 at 3 3;boards 1", 0, 0, 6, 0, 0, 0, 0, 0).person(0, 2));
        due("one stands in it, no board", -1, () -> toldRows("person 9 at 3 3", 0, 0, 6, 0, 0, 0, 0, 0).person(0, 2));
        due("THE HOLE in a corner, one beside", 0, () -> Check.told("hole 0 0;person 9 at 1 0").person(0, 2));
        due("THE HOLE in a corner, round the edge is not beside", -1, () -> Check.told("hole 0 1;person 9 at 7 0").person(0, 2));
        due("own CELL bears nothing", 0, () -> Check.told("person 5 at 0 0;bears 0 0 0").person(0, 2));
    }

    private static void far() {
        Doc.says("FAR: the greatest DISTANCE (what X and what Y are apart, together) of a CELL in REACH from the own one.", 9);
        due("from corner to corner", 14, () -> Check.told("person 5 at 0 0").person(0, 3));
        due("from corner to corner", 14, () -> Check.told("person 5 at 7 0").person(0, 3));
        for (int cell = 0; cell < 64; cell++) {
            int x = cell % 8;
            int y = cell / 8;
            due("from X " + x + " Y " + y, Math.max(x, 7 - x) + Math.max(y, 7 - y), () -> Check.told("person 5 at " + x + " " + y).person(0, 3));
        }
        due("nowhere", 0, () -> Check.told("person 6 at 3 3").person(0, 3));
        due("one step", 1, () -> Check.told("person 6 at 3 3;bears 3 2 6").person(0, 3));
        due("not for one who is quick", 0, () -> Check.told("person 6 at 3 3;bears 3 2 5").person(0, 3));
        due("aslant: not in REACH", 0, () -> Check.told("person 6 at 3 3;bears 2 2 6").person(0, 3));
        due("about a corner: 2, not 3 steps", 2, () -> Check.told("person 6 at 3 3;bears 3 2 6;bears 3 1 6;bears 2 2 6").person(0, 3));
        due("there and nearer again", 3, () -> Check.told("person 6 at 0 0;bears 1 0 6;bears 2 0 6;bears 2 1 6;bears 1 1 6").person(0, 3));
    }

    private static void walk() {
        Doc.says("a PERSON steps to a CELL beside the own one (not aslant);", 14);
        for (int cell = 0; cell < 64; cell++) {
            int c = cell;
            boolean beside = c == 26 || c == 28 || c == 19 || c == 35;
            WaistSand x = Check.told("person 1 at 3 3");
            due("from 27 to " + c, beside ? 5 : ISE, () -> x.walk(0, c));
            due("where one is then", beside ? c : 27, () -> x.person(0, 1));
        }
        int[][] corners = {{0, 1, 8, 7, 9, 63}, {7, 6, 15, 8, 14, 0}, {56, 48, 57, 55, 49, 63}, {63, 62, 55, 56, 54, 0}};
        for (int[] corner : corners) {
            for (int i = 1; i < corner.length; i++) {
                WaistSand x = Check.told("person 1 at " + corner[0] % 8 + " " + corner[0] / 8);
                int to = corner[i];
                due("from " + corner[0] + " to " + to, i < 3 ? 5 : ISE, () -> x.walk(0, to));
            }
        }
        Doc.says("A PERSON steps to a CELL: what that BEARS. IllegalStateException: it is not beside the own one.", 14);
        WaistSand x = Check.told("person 9 at 3 3;bears 4 3 0;bears 3 2 9");
        due("it bears nothing", 0, () -> x.walk(0, 28));
        due("back, into THE HOLE", 5, () -> x.walk(0, 27));
        due("it bears 9", 9, () -> x.walk(0, 19));
        due("the own one", ISE, () -> x.walk(0, 19));
        due("acts, rows, MINUTE", List.of(3, 0, 0), () -> List.of(x.count(18), x.count(17), x.count(7)));
        Doc.says("IndexOutOfBoundsException: there is no such LEG, MOVE, CELL, PERSON.", 14);
        for (int no : new int[] {-1, 1, 6, LEAST, MOST}) {
            due("PERSON " + no, IOOBE, () -> x.walk(no, 27));
        }
        for (int no : new int[] {-1, 64, LEAST, MOST}) {
            due("CELL " + no, IOOBE, () -> x.walk(0, no));
        }
        WaistSand low = Check.told("person 1 at 0 0;person 1 at 7 7");
        due("above the first row", IOOBE, () -> low.walk(0, -8));
        due("below the last row", IOOBE, () -> low.walk(1, 71));
    }

    private static void board() {
        Doc.says("a BOARD is laid on a CELL: BEARS 3 more (9 at most), one BOARD less;", 15);
        for (int bears = 0; bears <= 9; bears++) {
            WaistSand x = Check.told("boards 2;bears 7 7 " + bears);
            int b = bears;
            due("on " + b, Math.min(9, b + 3), () -> x.board(63));
            due("it stays, one less", List.of(Math.min(9, b + 3), 1), () -> List.of(x.cell(63, 0), x.count(14)));
            due("on the same once more", Math.min(9, b + 6), () -> x.board(63));
        }
        Doc.says("A BOARD is laid: what the CELL BEARS then. IllegalStateException: there is none.", 15);
        WaistSand x = Check.told("boards 1");
        due("the last one", 8, () -> x.board(0));
        due("none", ISE, () -> x.board(0));
        due("nothing happens", List.of(8, 0, 1), () -> List.of(x.cell(0, 0), x.count(14), x.count(18)));
        due("none at first", ISE, () -> new WaistSand().board(0));
        WaistSand nine = Check.told("boards 9");
        for (int i = 0; i < 9; i++) {
            nine.board(i);
        }
        due("a tenth", ISE, () -> nine.board(9));
        Doc.says("IndexOutOfBoundsException: there is no such LEG, MOVE, CELL, PERSON.", 15);
        for (int no : new int[] {-1, 64, LEAST, MOST}) {
            due("CELL " + no, IOOBE, () -> x.board(no));
            due("CELL " + no + ", with a BOARD", IOOBE, () -> Check.told("boards 1").board(no));
        }
    }

    private static void way() {
        Doc.says("WAY of a PERSON to a CELL: the fewest steps to CELLS beside (not aslant), all but the own one BEARING the WEIGHT"
            + " (quick: the WEIGHT less 1) at least; none.", 29);
        due("to the own one", 0, () -> Check.told("person 5 at 3 3").way(0, 27, false));
        due("to the own one, that bears nothing", 0, () -> Check.told("person 5 at 3 3;bears 3 3 0").way(0, 27, false));
        due("to one beside", 1, () -> Check.told("person 5 at 3 3").way(0, 28, false));
        due("to one aslant", 2, () -> Check.told("person 5 at 3 3").way(0, 18, false));
        due("from corner to corner", 14, () -> Check.told("person 5 at 0 0").way(0, 63, false));
        due("not round the edge", 8, () -> Check.told("person 5 at 7 0").way(0, 8, false));
        for (int bears = 0; bears <= 9; bears++) {
            for (int weight = Math.max(1, bears - 1); weight <= Math.min(9, bears + 3); weight++) {
                int b = bears;
                int w = weight;
                WaistSand x = Check.told("person " + w + " at 3 3;bears 4 3 " + b);
                due("WEIGHT " + w + " on " + b, b >= w ? 1 : -1, () -> x.way(0, 28, false));
                due("WEIGHT " + w + " on " + b + ", quick", b >= w - 1 ? 1 : -1, () -> x.way(0, 28, true));
            }
        }
        // The whole shore is one winding lane: Y 0 to the right, down at X 7, Y 2 to the left, down at X 0, and so on.
        WaistSand lane = toldRows("bears 7 1 6;bears 0 3 6;bears 7 5 6;bears 0 7 6;person 6 at 0 0;person 7 at 0 0", 6, 0, 6, 0, 6, 0, 6, 0);
        due("the longest way", 35, () -> lane.way(0, 56, false));
        due("too heavy, quick enough", List.of(-1, 35), () -> List.of(lane.way(1, 56, false), lane.way(1, 56, true)));
        due("beside the lane", -1, () -> lane.way(0, 8, true));
        due("into THE HOLE", 6, () -> Check.told("person 5 at 0 0").way(0, 27, false));
        Doc.says("WAY; NONE.", 29);
        due("none", -1, () -> Check.told("person 6 at 0 0").way(0, 1, false));
        Doc.says("IndexOutOfBoundsException: there is no such LEG, MOVE, CELL, PERSON.", 29);
        for (int no : new int[] {-1, 2, 6, LEAST, MOST}) {
            due("PERSON " + no, IOOBE, () -> lane.way(no, 0, false));
        }
        for (int no : new int[] {-1, 64, LEAST, MOST}) {
            due("CELL " + no, IOOBE, () -> lane.way(0, no, true));
        }
    }

    private static void reach() {
        Doc.says("REACH: CELLS to which there is a WAY, as bits of a long.", 30);
        due("the own one alone", bits(63), () -> Check.told("person 9 at 7 7").reach(0, false));
        due("the own one alone", bits(0), () -> Check.told("person 7 at 0 0").reach(0, true));
        due("all", -1L, () -> Check.told("person 5 at 7 7").reach(0, false));
        due("all, quick", -1L, () -> Check.told("person 6 at 0 0").reach(0, true));
        due("one who bears as much", bits(0, 1), () -> Check.told("person 6 at 0 0;bears 1 0 6").reach(0, false));
        due("not round the edge", bits(7, 6), () -> Check.told("person 6 at 7 0;bears 6 0 6;bears 0 1 6").reach(0, false));
        due("not round the edge", bits(8), () -> Check.told("person 6 at 0 1;bears 7 0 6;bears 7 1 6").reach(0, false));
        due("not aslant", bits(27), () -> Check.told("person 6 at 3 3;bears 2 2 6;bears 4 2 6;bears 2 4 6;bears 4 4 6").reach(0, false));
        due("nothing is less than nothing", -1L, () -> toldRows("person 1 at 0 0", 0, 0, 0, 0, 0, 0, 0, 0).reach(0, true));
        due("1 is more than nothing", bits(0), () -> toldRows("person 1 at 0 0", 0, 0, 0, 0, 0, 0, 0, 0).reach(0, false));
        Doc.says("REACH, as bits of a long.", 30);
        due("CELL 63 is the sign", Long.MIN_VALUE, () -> Check.told("person 9 at 7 7").reach(0, true));
        Doc.says("IndexOutOfBoundsException: there is no such LEG, MOVE, CELL, PERSON.", 30);
        for (int no : new int[] {-1, 1, 6, LEAST, MOST}) {
            due("PERSON " + no, IOOBE, () -> Check.told("person 9 at 7 7").reach(no, true));
        }
    }

    private static void edge() {
        Doc.says("EDGE of a row Y for a WEIGHT 1 to 9: the greatest X up to which all CELLS from X 0 on BEAR it; none.", 31);
        for (int weak = 0; weak < 8; weak++) {
            int x = weak;
            for (int y : new int[] {0, 7}) {
                WaistSand told = Check.told("bears " + x + " " + y + " 4");
                due("X " + x + " Y " + y + " bears 4, 5 is asked", x - 1, () -> told.edge(y, 5));
                due("X " + x + " Y " + y + " bears 4, 4 is asked", 7, () -> told.edge(y, 4));
                due("another row", 7, () -> told.edge(7 - y, 5));
            }
        }
        due("behind a weak one it may bear", 1, () -> Check.told("bears 2 3 0;bears 3 3 9").edge(3, 5));
        due("WEIGHT 1", 7, () -> Check.told("bears 0 0 1").edge(0, 1));
        due("WEIGHT 1 on nothing", -1, () -> Check.told("bears 0 0 0").edge(0, 1));
        due("WEIGHT 9", 0, () -> Check.told("bears 0 0 9").edge(0, 9));
        due("WEIGHT 9 on 8", -1, () -> Check.told("bears 0 0 8").edge(0, 9));
        Doc.says("EDGE; NONE. IllegalArgumentException: Y (0 to 7) or the WEIGHT are none.", 31);
        for (int no : new int[] {-1, 8, LEAST, MOST}) {
            due("Y " + no, IAE, () -> new WaistSand().edge(no, 5));
        }
        for (int no : new int[] {0, 10, -1, LEAST, MOST}) {
            due("WEIGHT " + no, IAE, () -> new WaistSand().edge(0, no));
        }
        due("Y 0", 7, () -> new WaistSand().edge(0, 5));
        due("Y 7", 7, () -> new WaistSand().edge(7, 5));
        due("none", -1, () -> new WaistSand().edge(7, 6));
    }

    private static void signs() {
        Doc.says("SIGNS for a WEIGHT: of all CELLS with a HEAP and no SHINE how many BEAR it, in hundredths, rounded down;", 32);
        due("5 bears 5", 100, () -> Check.told("heap 0 0").signs(5, false));
        due("5 bears no 6", 0, () -> Check.told("heap 0 0").signs(6, false));
        due("2 of 3", 66, () -> Check.told("heap 0 0;heap 1 0;heap 7 7;bears 1 0 4").signs(5, false));
        due("1 of 3", 33, () -> Check.told("heap 0 0;heap 1 0;heap 7 7;bears 1 0 4;bears 7 7 4").signs(5, false));
        due("0 of 3", 0, () -> Check.told("heap 0 0;heap 1 0;heap 7 7").signs(6, false));
        due("5 of 6", 83, () -> Check.told("heap 0 0;heap 1 0;heap 2 0;heap 3 0;heap 4 0;heap 5 0;bears 5 0 0").signs(5, false));
        due("SHINE too: not counted", 100, () -> Check.told("heap 0 0;heap 1 0;shine 1 0;bears 1 0 4").signs(5, false));
        due("a HEAP told twice is one", 50, () -> Check.told("heap 0 0;heap 0 0;heap 1 0;bears 1 0 4").signs(5, false));
        Doc.says("of all with SHINE and no HEAP how many do not (0 each, without such).", 32);
        due("5 bears 5", 0, () -> Check.told("shine 0 0").signs(5, true));
        due("5 bears no 6", 100, () -> Check.told("shine 0 0").signs(6, true));
        due("1 of 3", 33, () -> Check.told("shine 0 0;shine 1 0;shine 7 7;bears 1 0 4").signs(5, true));
        due("2 of 3", 66, () -> Check.told("shine 0 0;shine 1 0;shine 7 7;bears 1 0 4;bears 7 7 4").signs(5, true));
        due("a HEAP too: not counted", 0, () -> Check.told("shine 0 0;heap 1 0;shine 1 0;bears 1 0 4").signs(5, true));
        due("without such", List.of(0, 0), () -> List.of(new WaistSand().signs(1, false), new WaistSand().signs(9, true)));
        due("both on one CELL alone", List.of(0, 0), () -> List.of(Check.told("heap 0 0;shine 0 0").signs(1, false),
            Check.told("heap 0 0;shine 0 0").signs(9, true)));
        due("the other kind alone", List.of(0, 0), () -> List.of(Check.told("shine 0 0").signs(1, false), Check.told("heap 0 0").signs(9, true)));
        Doc.says("SIGNS of those with a HEAP (shine false), or with SHINE. IllegalArgumentException: the WEIGHT is none.", 32);
        for (int no : new int[] {0, 10, -1, LEAST, MOST}) {
            due("WEIGHT " + no, IAE, () -> Check.told("heap 0 0").signs(no, false));
            due("WEIGHT " + no, IAE, () -> new WaistSand().signs(no, true));
        }
        due("WEIGHT 1", List.of(100, 0), () -> List.of(Check.told("heap 0 0").signs(1, false), Check.told("shine 0 0").signs(1, true)));
        due("WEIGHT 9", List.of(0, 100), () -> List.of(Check.told("heap 0 0").signs(9, false), Check.told("shine 0 0").signs(9, true)));
    }

    private static void sinking() {
        Doc.says("SINKING: CELLS that BEAR less than all PEOPLE on them WEIGH together, as bits of a long.", 33);
        due("nobody", 0L, () -> toldRows("thin 0", 0, 0, 0, 0, 0, 0, 0, 0).sinking());
        due("4 on 5", 0L, () -> Check.told("person 4 at 0 0").sinking());
        due("5 on 5", 0L, () -> Check.told("person 5 at 0 0").sinking());
        due("6 on 5", bits(0), () -> Check.told("person 6 at 0 0").sinking());
        due("2 and 3 on 5", 0L, () -> Check.told("person 2 at 7 7;person 3 at 7 7").sinking());
        due("3 and 3 on 5", bits(63), () -> Check.told("person 3 at 7 7;person 3 at 7 7").sinking());
        due("3 and 3 on two CELLS", 0L, () -> Check.told("person 3 at 7 7;person 3 at 6 7").sinking());
        due("six of 1 on 5", bits(9), () -> Check.told("person 1 at 1 1;".repeat(5) + "person 1 at 1 1").sinking());
        due("five of 1 on 5", 0L, () -> Check.told("person 1 at 1 1;".repeat(4) + "person 1 at 1 1").sinking());
        due("1 on nothing", bits(0), () -> Check.told("person 1 at 0 0;bears 0 0 0").sinking());
        due("9 on 9", 0L, () -> Check.told("person 9 at 0 0;bears 0 0 9").sinking());
        Doc.says("SINKING, as bits of a long.", 33);
        due("CELL 63 is the sign", Long.MIN_VALUE + 1, () -> Check.told("person 9 at 7 7;person 6 at 0 0").sinking());
    }

    private static void holes() {
        Doc.says("HOLES: PEOPLE whose WEIGHT is just so much (1 to 9) above what a CELL BEARS, as bits.", 34);
        WaistSand x = Check.told("person 1 at 0 0;person 2 at 7 7;person 9 at 1 1;person 6 at 2 2;person 5 at 2 2;person 6 at 0 0;"
            + "bears 0 0 0;bears 7 7 9;bears 1 0 8");
        due("1 above 0", 0b000001, () -> x.holes(0, 1));
        due("2 above 0", 0b000010, () -> x.holes(0, 2));
        due("9 above 0", 0b000100, () -> x.holes(0, 9));
        due("8 above 0", 0, () -> x.holes(0, 8));
        due("6 above 0", 0b101000, () -> x.holes(0, 6));
        due("1 above 5", 0b101000, () -> x.holes(9, 1));
        due("4 above 5", 0b000100, () -> x.holes(9, 4));
        due("1 above 9", 0, () -> x.holes(63, 1));
        due("1 above 8", 0b000100, () -> x.holes(1, 1));
        Doc.says("HOLES, as bits. IllegalArgumentException: so much is none.", 34);
        for (int no : new int[] {0, 10, -1, LEAST, MOST}) {
            due("so much " + no, IAE, () -> x.holes(0, no));
        }
        due("nobody", 0, () -> new WaistSand().holes(0, 1));
        Doc.says("IndexOutOfBoundsException: there is no such LEG, MOVE, CELL, PERSON.", 34);
        for (int no : new int[] {-1, 64, LEAST, MOST}) {
            due("CELL " + no, IOOBE, () -> x.holes(no, 1));
            due("CELL " + no + " ahead of so much", IOOBE, () -> x.holes(no, 0));
        }
    }

    private static void rope() {
        Doc.says("ROPE: CELLS beside THE HOLE, or two steps from it (not aslant, whatever they BEAR), that BEAR a WEIGHT, as bits of a long.", 35);
        long all = bits(11, 18, 19, 20, 25, 26, 28, 29, 34, 35, 36, 43);
        due("about 27, not three steps, not THE HOLE", all, () -> new WaistSand().rope(5));
        due("none bears 6", 0L, () -> new WaistSand().rope(6));
        due("X 2 Y 3 bears 6", bits(26), () -> Check.told("bears 2 3 6").rope(6));
        due("X 2 Y 3 bears 4", all & ~bits(26), () -> Check.told("bears 2 3 4").rope(5));
        due("THE HOLE bears 9", 0L, () -> Check.told("bears 3 3 9").rope(9));
        due("one in the midst bears nothing, one behind does", bits(25), () -> Check.told("bears 2 3 0;bears 1 3 9").rope(9));
        due("corner 0", bits(1, 2, 8, 9, 16), () -> Check.told("hole 0 0").rope(1));
        due("corner 7", bits(5, 6, 14, 15, 23), () -> Check.told("hole 7 0").rope(1));
        due("corner 56", bits(40, 48, 49, 57, 58), () -> Check.told("hole 0 7").rope(1));
        due("corner 63", bits(47, 54, 55, 61, 62), () -> Check.told("hole 7 7").rope(1));
        due("one from the edge", bits(5, 6, 7, 12, 13, 15, 21, 22, 23), () -> Check.told("hole 6 1;bears 6 3 0").rope(5));
        Doc.says("ROPE, as bits of a long. IllegalArgumentException: the WEIGHT is none.", 35);
        for (int no : new int[] {0, 10, -1, LEAST, MOST}) {
            due("WEIGHT " + no, IAE, () -> new WaistSand().rope(no));
        }
        due("WEIGHT 1 on nothing", 0L, () -> toldRows("thin 0", 0, 0, 0, 0, 0, 0, 0, 0).rope(1));
        due("WEIGHT 1 on 1", all, () -> toldRows("thin 0", 1, 1, 1, 1, 1, 1, 1, 1).rope(1));
        due("WEIGHT 9 on 9", bits(55), () -> Check.told("hole 7 7;bears 7 6 9").rope(9));
    }

    private static void placed() {
        Doc.says("PLACED: the most PEOPLE who can each stand on another CELL of those of the ROPE (by WEIGHT each, wherever they are now;"
            + " THE HOLE is none of them).", 36);
        due("nobody", 0, () -> new WaistSand().placed());
        due("one", 1, () -> Check.told("person 5 at 7 7").placed());
        due("one who stands in THE HOLE", 1, () -> Check.told("person 5 at 3 3").placed());
        due("too heavy", 0, () -> Check.told("person 6 at 7 7").placed());
        due("six", 6, () -> Check.told("person 5 at 0 0;".repeat(5) + "person 5 at 0 0").placed());
        due("THE HOLE bears 9", 0, () -> Check.told("person 6 at 3 3;bears 3 3 9").placed());
        due("a CELL takes one alone", 1, () -> Check.told("person 6 at 0 0;person 6 at 0 0;bears 2 3 6").placed());
        due("two CELLS", 2, () -> Check.told("person 6 at 0 0;person 6 at 0 0;bears 2 3 6;bears 1 3 6").placed());
        due("three steps from it", 1, () -> Check.told("person 6 at 0 0;person 6 at 0 0;bears 2 3 6;bears 0 3 6").placed());
        // In the corner there are five CELLS, of six PEOPLE five stand.
        due("fewer CELLS than PEOPLE", 5, () -> Check.told("hole 0 0;" + "person 1 at 0 0;".repeat(5) + "person 1 at 0 0").placed());
        String weak = "hole 0 0;bears 1 0 3;bears 2 0 3;bears 0 1 9;bears 0 2 0;bears 1 1 0;";
        due("the light ones leave the strong CELL to the heavy one", 3, () -> Check.told(weak + "person 3 at 0 0;person 9 at 0 0;person 1 at 0 0").placed());
        due("one of two heavy ones", 3, () -> Check.told(weak + "person 3 at 0 0;person 9 at 0 0;person 4 at 0 0;person 1 at 0 0").placed());
        due("of three light ones one takes the strong CELL", 3, () -> Check.told(weak + "person 3 at 0 0;person 9 at 0 0;person 3 at 0 0;person 3 at 0 0").placed());
        due("one, whatever CELLS there are", 1, () -> Check.told(weak + "person 1 at 0 0").placed());
        due("1 on 1", 1, () -> toldRows("person 1 at 0 0;person 2 at 0 0", 1, 1, 1, 1, 1, 1, 1, 1).placed());
        due("no CELL bears", 0, () -> toldRows("person 1 at 0 0", 0, 0, 0, 0, 0, 0, 0, 0).placed());
    }
}
