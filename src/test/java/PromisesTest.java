import java.util.List;

/** Each promise of the document by its number: ordinary inputs, the edges that it names, and wrong inputs. */
public final class PromisesTest {
    private static final String IAE = "IllegalArgumentException";
    private static final String ISE = "IllegalStateException";
    private static final String IOOBE = "IndexOutOfBoundsException";
    private static final String NSEE = "NoSuchElementException";
    private static final String UOE = "UnsupportedOperationException";
    private static final int LEAST = Integer.MIN_VALUE;
    private static final int MOST = Integer.MAX_VALUE;

    public static void main(String[] args) {
        newObject();
        tape();
        beach();
        beachFaults();
        law();
        lawFaults();
        moveNumbers();
        cells();
        people();
        moved();
        lawOfMoves();
        pull();
        talkAndPour();
        walkAndBoard();
        movesByDraws();
        slips();
        would();
        soonestAndBest();
        latestAndWorth();
        stuckAndDeepest();
        roundAndMore();
        runAndBetter();
        force();
        ways();
        edgeAndSigns();
        sinkingAndHoles();
        ropeAndPlaced();
        trialAndSpan();
        logAndLed();
        undo();
        image();
        drowned();
        Check.ends("PromisesTest");
    }

    private static void due(String what, Object want, Check.Call call) {
        Check.due(what, want, call);
    }

    private static void counts(WaistSand x, String what, int... want) {
        for (int i = 0; i < want.length; i++) {
            int n = i;
            due(what + " count(" + n + ")", want[n], () -> x.count(n));
        }
    }

    // Promise 1, 45
    private static void newObject() {
        WaistSand x = new WaistSand();
        counts(x, "new", 0, 0, 0, 0, 0, 0, 0, 0, 999, 1, 0, 0, 27, 0, 0, 0, -1, 0, 0, -1);
        for (int what : new int[] {-1, 19, LEAST, MOST}) {
            due("count of another what", -1, () -> x.count(what));
        }
        due("NONE", -1, () -> WaistSand.NONE);
        due("fault ahead of any text", -1, x::fault);
        due("move 3 takes", 1, () -> x.move(3, 3));
        due("cell 63 bears", 5, () -> x.cell(63, 0));
        due("first seed", 1, () -> x.seed(5));
        due("nobody", IOOBE, () -> x.person(0, 0));
        due("nothing to undo", false, x::undo);
        due("no image", false, x::back);
        due("out at first", ISE, () -> x.moved(0, 0));
    }

    // Promises 2, 3
    private static void tape() {
        WaistSand x = new WaistSand();
        for (int i = 1; i <= 20; i++) {
            int has = 20 * i;
            due("feed", has, () -> x.feed(0, 0, 0, 0, 0));
        }
        due("a full tape", -1, () -> x.feed(1, 2, 3, 4, 5));
        due("it has 400", false, () -> x.end(401));
        due("all of it", true, () -> x.end(400));
        due("below 0", false, () -> x.end(-1));
        due("far below 0", false, () -> x.end(LEAST));
        due("381 of it", true, () -> x.end(381));
        due("no room for twenty", -1, () -> x.feed(0, 0, 0, 0, 0));
        due("380 of it", true, () -> x.end(380));
        due("room for twenty", 400, () -> x.feed(0, 0, 0, 0, 0));
        due("nothing of it", true, () -> x.end(0));
        due("nothing is left", false, () -> x.end(1));
        due("the highest byte first", 20, () -> x.feed(0x74686960 + 14, 0x20330000, 0, 0, 0));
        due("thin 3 has 6 bytes", true, () -> x.end(6));
        due("thin 3", 1, x::beach);
        due("THIN", 3, () -> x.count(2));
        due("the tape is used up", false, () -> x.end(1));
        x.feed(0x78000000, 0, 0, 0, 0);
        due("x is wrong", IAE, x::beach);
        due("used up by a wrong text", false, () -> x.end(1));
    }

    // Promises 4, 6
    private static void beach() {
        WaistSand x = new WaistSand();
        due("all kinds", 1, () -> Check.beach(x, "legs 9 8; thin 5; calm 7; water 6; tide 0; slip 100;"
            + "move 6 up 9 down 8 stirs 5 takes 30;bears 7 0 9;heap 0 7;shine 7 7;hole 0 0;person 9 at 7 0;boards 9"));
        counts(x, "all kinds", 9, 8, 5, 0, 7, 6, 0, 0, 0, 0, 1, 100, 0, 1, 9, 1, -1, 0, 0);
        due("up of 6", 9, () -> x.move(6, 0));
        due("down of 6", 8, () -> x.move(6, 1));
        due("stirs of 6", 5, () -> x.move(6, 2));
        due("takes of 6", 30, () -> x.move(6, 3));
        due("bears X 7 Y 0", 9, () -> x.cell(7, 0));
        due("heap X 0 Y 7", 1, () -> x.cell(56, 1));
        due("shine X 7 Y 7", 1, () -> x.cell(63, 2));
        due("person", 7, () -> x.person(0, 1));
        due("blanks between all, or none", 2, () -> Check.beach(x, "  legs1 02;thin004  ;tide  999 "));
        due("LEG 0", 1, () -> x.count(0));
        due("LEG 1", 2, () -> x.count(1));
        due("THIN", 4, () -> x.count(2));
        due("TIDE", 999, () -> x.count(8));
        due("what was told ahead stays", 9, () -> x.count(14));
        due("all at their least", 3, () -> Check.beach(x, "legs 0 0;thin 0;calm 0;water 0;tide 0;slip 0;boards 0;"
            + "move 0 up 0 down 0 stirs 0 takes 1;bears 0 0 0;heap 0 0;shine 0 0;hole 0 0;person 1 at 0 0"));
        counts(x, "all at their least", 0, 0, 0, 0, 0, 0, 0, 0, 0, 1, 0, 0, 0, 2, 0, 3, -1, 0, 0);
        Check.beach(x, "boards 9");
        for (int i = 5; i <= 12; i++) {
            due("text " + i, i, () -> Check.beach(x, "   "));
        }
        due("a wrong text first", IAE, () -> Check.beach(x, "boards x"));
        due("fault", 7, x::fault);
        due("a 13th text", UOE, () -> Check.beach(x, "boards 1"));
        due("it was read, and not wrong", -1, x::fault);
        due("nothing of it stays", 9, () -> x.count(14));
        due("12 texts", 12, () -> x.count(15));
        due("used up", false, () -> x.end(1));
    }

    private static void wrongBeach(String text, int at) {
        WaistSand x = new WaistSand();
        due("beach '" + text + "'", IAE, () -> Check.beach(x, text));
        due("fault of '" + text + "'", at, x::fault);
        counts(x, "behind '" + text + "'", 0, 0, 0, 0, 0, 0, 0, 0, 999, 1, 0, 0, 27, 0, 0, 0, -1, 0, 0);
    }

    private static void beachFaults() {
        wrongBeach("legs", 4);
        wrongBeach("legs 12", 5);
        wrongBeach("legs 1 ", 7);
        wrongBeach("  legs  1  ", 11);
        wrongBeach("leg 1 1", 0);
        wrongBeach("legsx 1 1", 0);
        wrongBeach("Legs 1 1", 0);
        wrongBeach("legs 1 1 1", 9);
        wrongBeach("legs 1 1 thin 1", 9);
        wrongBeach("legs 1,1", 6);
        wrongBeach("legs 0001 1", 5);
        wrongBeach("thin 5; calm 9;", 15);
        wrongBeach("thin 5;;calm 9", 7);
        wrongBeach("; thin 5", 0);
        wrongBeach(" ;", 1);
        wrongBeach("5", 0);
        wrongBeach("slip 0101", 5);
        wrongBeach("move 1 down 2", 7);
        wrongBeach("move 1 up 2 up 2", 12);
        wrongBeach("move 1 up 1 down 1 stir 1 takes 1", 19);
        wrongBeach("move 1 up 1 down 1 stirs 1 takes 0", 33);
        wrongBeach("move 1 up 1 down 1 stirs 1 takes", 32);
        wrongBeach("person 0 at 1 1", 7);
        wrongBeach("person 1 at 1 8", 14);
        wrongBeach("heap 8 0", 5);
        wrongBeach("shine 0", 7);
        wrongBeach("hole 0 8", 7);
        wrongBeach("boards 1 if lying", 9);
        wrongBeach("thin 1\t", 6);
        wrongBeach("thin 1;" + (char) 255, 7);
        wrongBeach("thin 1;".repeat(14), 98);
        wrongBeach("thin 1;".repeat(14) + "  x", 100);
        WaistSand x = Check.told("person 1 at 0 0;person 2 at 0 0;person 3 at 0 0;person 4 at 0 0;person 5 at 0 0");
        due("a sixth and a seventh", IAE, () -> Check.beach(x, "person 6 at 0 0; person 7 at"));
        due("the seventh's word", 17, x::fault);
        due("five are there", 5, () -> x.count(13));
        due("a sixth", 2, () -> Check.beach(x, "person 6 at 0 0"));
        due("a seventh", IAE, () -> Check.beach(x, " person"));
        due("its word", 1, x::fault);
        due("14 lines", 1, () -> Check.beach(new WaistSand(), "thin 1;".repeat(13) + "thin 2"));
    }

    // Promises 5, 6
    private static void law() {
        WaistSand x = new WaistSand();
        due("no lines", 0, () -> Check.law(x, "  "));
        due("a line of 0", 1, () -> Check.law(x, "down 0 if 0<0"));
        due("a law of one", 1, () -> x.count(16));
        due("no lines", 0, () -> Check.law(x, ""));
        due("a law of none", 0, () -> x.count(16));
        due("two lines", 2, () -> Check.law(x, "up 1;settle 9if not(leg+1<other+22 or lying)and move>0"));
        due("two lines", 2, () -> x.count(16));
        due("wrong", IAE, () -> Check.law(x, "up 1 if"));
        due("fault", 7, x::fault);
        due("the one ahead stays", 2, () -> x.count(16));
        due("six deep", 1, () -> Check.law(x, "up 1 if (not(not(not lying)))"));
        due("no fault", -1, x::fault);
        due("six deep twice", 1, () -> Check.law(x, "up 1 if ((((((lying)))))) or ((((((999>1))))))"));
        due("texts of the beach", 0, () -> x.count(15));
    }

    private static void wrongLaw(String text, int at) {
        WaistSand x = new WaistSand();
        due("law '" + text + "'", IAE, () -> Check.law(x, text));
        due("fault of '" + text + "'", at, x::fault);
        due("no law", -1, () -> x.count(16));
    }

    private static void lawFaults() {
        wrongLaw("upp 1", 0);
        wrongLaw("up x", 3);
        wrongLaw("up 0010", 3);
        wrongLaw("up 10", 3);
        wrongLaw("up 1 1", 5);
        wrongLaw("up 1 when", 5);
        wrongLaw("up 1 if  ", 9);
        wrongLaw("up 1 if;", 7);
        wrongLaw("up 1 if lying lying", 14);
        wrongLaw("up 1 if lying and", 17);
        wrongLaw("up 1 if lying or or", 17);
        wrongLaw("up 1 if leg", 11);
        wrongLaw("up 1 if leg and", 12);
        wrongLaw("up 1 if leg+<3", 12);
        wrongLaw("up 1 if leg=3", 11);
        wrongLaw("up 1 if leg<1000", 12);
        wrongLaw("up 1 if leg<lying", 12);
        wrongLaw("up 1 if legs<3", 8);
        wrongLaw("up 1 if (leg)<3", 12);
        wrongLaw("up 1 if lying)", 13);
        wrongLaw("up 1 if (lying;up 1", 14);
        wrongLaw("up 1 if ((((((( lying", 14);
        wrongLaw("up 1 if not(not(not(not lying", 20);
        wrongLaw("up 1 if not", 11);
        wrongLaw("up 1 if 1<2<3", 11);
        wrongLaw("up 1;", 5);
        wrongLaw("up 1; ;", 6);
        wrongLaw("up 1;".repeat(12), 60);
        wrongLaw("thin 1", 0);
        wrongLaw("up 1 if lying" + (char) 200, 13);
    }

    // Promise 7
    private static void moveNumbers() {
        WaistSand x = Check.told("legs 2 2;move 1 up 1 down 0 stirs 0 takes 3;move 2 up 2 down 0 stirs 0 takes 4");
        due("the second helps by 4 x 1 less 2 x 4", 4, () -> x.move(2, 4));
        due("the first does not", 0, () -> x.move(1, 4));
        due("another does not", 0, () -> x.move(6, 4));
        WaistSand one = Check.told("legs 2 2;move 1 up 1 down 0 stirs 0 takes 3");
        due("never without", -3, () -> one.move(1, 4));
        WaistSand none = Check.told("legs 2 2");
        due("with neither", -1, () -> none.move(1, 4));
        due("out", 0, () -> new WaistSand().move(1, 4));
        for (int move : new int[] {-1, 7, LEAST, MOST}) {
            due("no such move first", IOOBE, () -> x.move(move, 9));
        }
        for (int what : new int[] {-1, 5, LEAST, MOST}) {
            due("no such what", NSEE, () -> x.move(0, what));
        }
    }

    // Promise 8
    private static void cells() {
        WaistSand x = Check.told("bears 2 1 8;heap 2 1;shine 3 1;person 4 at 2 1;person 5 at 0 0;person 6 at 2 1");
        due("bears", 8, () -> x.cell(10, 0));
        due("heap", 1, () -> x.cell(10, 1));
        due("no shine", 0, () -> x.cell(10, 2));
        due("people", 5, () -> x.cell(10, 3));
        due("shine", 1, () -> x.cell(11, 2));
        due("no heap", 0, () -> x.cell(11, 1));
        for (int cell : new int[] {-1, 64, LEAST, MOST}) {
            due("no such cell first", IOOBE, () -> x.cell(cell, 9));
        }
        for (int what : new int[] {-1, 4, LEAST, MOST}) {
            due("no such what", NSEE, () -> x.cell(0, what));
        }
    }

    // Promise 9
    private static void people() {
        WaistSand x = Check.told("person 9 at 1 3;person 9 at 0 3;bears 1 3 6;bears 0 3 9;hole 3 3;person 9 at 3 3");
        due("weight", 9, () -> x.person(0, 0));
        due("cell", 25, () -> x.person(0, 1));
        due("all about bears 5: no board makes it 9", -1, () -> x.person(0, 2));
        due("far: to X 0", 1, () -> x.person(0, 3));
        due("alone on its cell", 0, () -> x.person(1, 3));
        due("in the hole, none beside bears", -1, () -> x.person(2, 2));
        due("more of it", 2, () -> Check.beach(x, "bears 2 3 6;boards 1"));
        due("one board on X 2", 1, () -> x.person(0, 2));
        due("two boards are too many", -1, () -> x.person(1, 2));
        due("from the hole onto a board", 1, () -> x.person(2, 2));
        due("a second board", 3, () -> Check.beach(x, "boards 2"));
        due("two boards", 2, () -> x.person(1, 2));
        due("one stands beside", 4, () -> Check.beach(x, "hole 1 4;boards 0"));
        due("nothing to lay", 0, () -> x.person(0, 2));
        WaistSand wall = Check.told("person 6 at 0 0;hole 1 0;bears 0 1 5;bears 1 0 9;bears 1 1 9");
        due("own cell is beside the hole", 0, () -> wall.person(0, 2));
        WaistSand through = Check.told("person 6 at 0 0;hole 2 0;bears 1 0 2;bears 0 1 9;bears 1 1 2;boards 5;"
            + "bears 2 1 9;bears 3 0 9;bears 0 2 3;bears 1 2 9;bears 2 2 9");
        due("a cell of 2 is not enough with a board, one of 3 is", 1, () -> through.person(0, 2));
        for (int person : new int[] {-1, 3, LEAST, MOST}) {
            due("no such person first", IOOBE, () -> x.person(person, 9));
        }
        for (int what : new int[] {-1, 4, LEAST, MOST}) {
            due("no such what", NSEE, () -> x.person(0, what));
        }
    }

    // Promise 10
    private static void moved() {
        WaistSand x = Check.told("legs 5 4;thin 2;move 0 up 3 down 2 stirs 2 takes 7;move 2 up 9 down 9 stirs 5 takes 1;"
            + "move 5 up 1 down 3 stirs 0 takes 2;move 6 up 9 down 1 stirs 1 takes 3;move 3 up 1 down 0 stirs 0 takes 1");
        due("LEG 1 up, LEG 0 down", 8, () -> x.moved(0, 1));
        counts(x, "jerked", 7, 1, 4, 0, 0, 0, 0, 7);
        due("lies back: up, then down", 2, () -> x.moved(6, 1));
        counts(x, "lain back", 1, 1, 5, 1, 0, 0, 0, 10);
        due("rests: 0 at least, then down", 6, () -> x.moved(5, 0));
        counts(x, "rested", 3, 3, 5, 1, 0, 0, 0, 12);
        due("drawn: 0 at least, 9 at most", 9, () -> x.moved(2, 0));
        counts(x, "drawn", 0, 9, 5, 1, 0, 0, 0, 13);
        due("kicked: no more lying", 9, () -> x.moved(3, 0));
        counts(x, "kicked", 0, 9, 5, 0, 0, 0, 0, 14);
        for (int no : new int[] {-1, 7, LEAST, MOST}) {
            due("no such move", IOOBE, () -> x.moved(no, 0));
        }
        for (int no : new int[] {-1, 2, LEAST, MOST}) {
            due("no such leg", IOOBE, () -> x.moved(0, no));
            due("no such leg of none", IOOBE, () -> x.moved(5, no));
        }
        WaistSand out = new WaistSand();
        due("first the index", IOOBE, () -> out.moved(7, 0));
        due("out", ISE, () -> out.moved(1, 0));
        for (int move = 0; move < 7; move++) {
            int m = move;
            WaistSand y = Check.told("legs 9 9");
            y.moved(6, 0);
            due("lying", 1, () -> y.count(3));
            y.moved(m, 0);
            due("lying behind " + m, m == 0 || m == 3 || m == 4 ? 0 : 1, () -> y.count(3));
        }
    }

    // Promises 5, 10, 17: what the law says of moves
    private static void lawOfMoves() {
        WaistSand x = Check.told("legs 6 3;thin 3;calm 4;water 5;move 1 up 1 down 1 stirs 1 takes 1", "up 2 if move<2;"
            + "up 1 if leg>other;down 3 if other<3+1 and not lying;stir 1 if calm+water>8;settle 3 if lying or leg<4");
        due("LEG 0: 6 less 4", 2, () -> x.would(1, 0, 0));
        due("LEG 1: 3 and 4", 7, () -> x.would(1, 0, 1));
        due("THIN 3, 1, 1", 5, () -> x.would(1, 0, 2));
        due("of LEG 1 its own depth is leg: 3 less 3", 0, () -> x.would(1, 1, 1));
        due("other is 6: down 1 alone", 7, () -> x.would(1, 1, 0));
        due("THIN 3, 2 less 3", 2, () -> x.would(1, 1, 2));
        due("of none leg is LEG 0 whatever is told", 8, () -> x.would(5, 1, 0));
        due("of none other is LEG 1", 5, () -> x.would(5, 1, 1));
        due("lying as it is ahead of it", 8, () -> x.would(6, 0, 0));
        due("THIN of none", 4, () -> x.would(6, 0, 2));
        WaistSand y = Check.told("legs 5 5;thin 1", "settle 9;stir 9;stir 3 if 1<2 or 1<0 and 1<0");
        due("as one sum", 4, () -> y.would(0, 0, 2));
        WaistSand z = Check.told("legs 5 5;thin 1", "settle 9;stir 1");
        due("0 at least", 0, () -> z.would(0, 0, 2));
        WaistSand v = Check.told("legs 5 5", "up 1 if not lying and not 3>3 and not 3<3 and 2+2>3 and 003<4");
        due("holds", 4, () -> v.would(4, 0, 0));
        due("another law in its place", 0, () -> Check.law(v, ""));
        due("nothing holds", 5, () -> v.would(4, 0, 0));
    }

    // Promise 11
    private static void pull() {
        WaistSand x = Check.told("legs 9 8;tide 100");
        due("too weak", 0, () -> x.pull(7));
        counts(x, "too weak", 9, 8, 0, 0, 0, 0, 0, 2);
        due("9 less 2 less 5 is 2", 1, () -> x.pull(9));
        counts(x, "pulled", 7, 6, 0, 0, 0, 0, 1, 4);
        x.moved(6, 0);
        due("lying: 3 less 2", 1, () -> x.pull(3));
        counts(x, "pulled lying", 6, 5, 0, 1, 0, 0, 1, 7);
        Check.beach(x, "thin 4");
        due("the half of 1 rounded down is 0", 1, () -> x.pull(5));
        counts(x, "pulled in thin sand", 1, 0, 4, 1, 0, 0, 1, 9);
        due("out by it", 13, () -> x.pull(20));
        counts(x, "out", 0, 0, 4, 1, 0, 0, 13, 11, 100, 1);
        due("out", ISE, () -> x.pull(20));
        for (int no : new int[] {0, 21, LEAST, MOST}) {
            due("the force first", IAE, () -> x.pull(no));
        }
        WaistSand harmed = Check.told("legs 9 9", "down 9");
        for (int i = 0; i < 142; i++) {
            harmed.pull(15);
            harmed.moved(5, 0);
        }
        due("7 each", 994, () -> harmed.count(6));
        due("999 at most", 999, () -> harmed.pull(15));
    }

    // Promises 12, 13
    private static void talkAndPour() {
        WaistSand x = new WaistSand();
        for (int i = 1; i <= 11; i++) {
            int n = Math.min(9, i);
            due("talk", n, x::talk);
            due("pour", n, x::pour);
        }
        due("each a minute", 22, () -> x.count(7));
        due("CALM", 9, () -> x.count(4));
        due("WATER", 9, () -> x.count(5));
        due("no rows of the log", 0, () -> x.count(17));
    }

    // Promises 14, 15
    private static void walkAndBoard() {
        WaistSand x = Check.told("person 3 at 7 0;bears 7 1 2;boards 2;bears 0 0 8");
        due("round the edge is not beside", ISE, () -> x.walk(0, 8));
        due("aslant is not beside", ISE, () -> x.walk(0, 14));
        due("the own one is not beside", ISE, () -> x.walk(0, 7));
        due("whatever it bears", 2, () -> x.walk(0, 15));
        due("its cell", 15, () -> x.person(0, 1));
        due("back again", 5, () -> x.walk(0, 7));
        due("no minute", 0, () -> x.count(7));
        due("no such person", IOOBE, () -> x.walk(1, 8));
        due("no such person", IOOBE, () -> x.walk(-1, 8));
        due("no such cell", IOOBE, () -> x.walk(0, 64));
        due("no such cell", IOOBE, () -> x.walk(0, -1));
        due("9 at most", 9, () -> x.board(0));
        due("3 more", 5, () -> x.board(15));
        due("no board is left", 0, () -> x.count(14));
        due("the cell first", IOOBE, () -> x.board(64));
        due("the cell first", IOOBE, () -> x.board(-1));
        due("none", ISE, () -> x.board(0));
    }

    private static int seeded = 1;

    private static int draw() {
        seeded = 1103515245 * seeded + 12345;
        return (seeded >> 16) & 0x7fff;
    }

    // Promise 16, 41
    private static void movesByDraws() {
        WaistSand x = Check.told("legs 9 9;move 0 up 0 down 0 stirs 0 takes 2");
        due("seed", 1, () -> x.seed(77));
        due("nine", 9, () -> x.moves(9));
        seeded = 77;
        for (int ago = 8; ago >= 0; ago--) {
            int a = ago;
            int move = draw() % 7;
            int leg = draw() % 2;
            draw();
            due("drawn move", move, () -> x.log(a, 1));
            due("drawn leg", move > 4 ? 2 : leg, () -> x.log(a, 2));
        }
        due("three draws each", seeded, () -> x.seed(LEAST));
        due("what it was", LEAST, () -> x.seed(1));
        due("sixty", 60, () -> x.moves(60));
        due("one", 1, () -> x.moves(1));
        due("one act each", 3, () -> x.count(18));
        for (int n : new int[] {0, 61, -1, LEAST, MOST}) {
            due("none", IAE, () -> x.moves(n));
        }
        WaistSand out = new WaistSand();
        due("out: none are made", 0, () -> out.moves(5));
        due("but it is an act", 1, () -> out.count(18));
        due("nothing is drawn", 1, () -> out.seed(1));
        WaistSand tide = Check.told("legs 9 9;tide 4");
        due("till the tide", 4, () -> tide.moves(60));
        due("drowned", 1, () -> tide.count(10));
        WaistSand soon = Check.told("legs 1 1", "up 9");
        due("till out, both legs", true, () -> soon.moves(60) < 20 && soon.count(9) == 1);
    }

    // Terms: SLIP
    private static void slips() {
        WaistSand x = Check.told("legs 3 9;slip 100;move 1 up 1 down 0 stirs 0 takes 1");
        due("1 deeper each, 9 at most", 12, () -> x.moved(1, 0));
        due("LEG 0: 2 and 1", 3, () -> x.count(0));
        seeded = 1;
        draw();
        due("one draw", seeded, () -> x.seed(1));
        WaistSand out = Check.told("legs 1 0;slip 100;move 1 up 1 down 0 stirs 0 takes 1");
        due("not if out by it", 0, () -> out.moved(1, 0));
        due("drawn all the same", seeded, () -> out.seed(1));
        int drawn = draw() % 100;
        WaistSand just = Check.told("legs 3 3;slip " + drawn);
        just.seed(((Number) Check.answer(() -> firstSeed())).intValue());
        due("not below", 6, () -> just.moved(1, 0));
        WaistSand below = Check.told("legs 3 3;slip " + (drawn + 1));
        below.seed(firstSeed());
        due("below", 8, () -> below.moved(1, 0));
        due("no slip by a pull", 3, () -> {
            below.pull(1);
            return below.count(0) - 1;
        });
    }

    private static int firstSeed() {
        return 1103515245 + 12345;
    }

    // Promise 17
    private static void would() {
        WaistSand x = Check.told("legs 0 0;move 1 up 1 down 4 stirs 2 takes 1;slip 100");
        due("out is not looked at", 4, () -> x.would(1, 0, 1));
        due("THIN", 2, () -> x.would(1, 1, 2));
        due("no lying", 0, () -> x.would(1, 1, 3));
        due("lying", 1, () -> x.would(6, 1, 3));
        due("nothing changes", 0, () -> x.count(1) + x.count(17) + x.count(18));
        due("no move", IOOBE, () -> x.would(7, 0, 9));
        due("no move", IOOBE, () -> x.would(-1, 0, 9));
        due("no leg", IOOBE, () -> x.would(6, 2, 0));
        due("no leg", IOOBE, () -> x.would(0, -1, 0));
        due("no what", NSEE, () -> x.would(0, 0, 4));
        due("no what", NSEE, () -> x.would(0, 0, -1));
        WaistSand drowned = Check.told("legs 3 3;tide 0;move 1 up 1 down 0 stirs 0 takes 1");
        due("drowned is not looked at", 2, () -> drowned.would(1, 1, 1));
    }

    // Promises 18, 19
    private static void soonestAndBest() {
        // Jerks bring a leg up by 3 and the other down by 1; lying back first makes resting lift both.
        WaistSand x = Check.told("legs 4 4;move 0 up 3 down 1 stirs 0 takes 2;move 6 up 0 down 0 stirs 0 takes 5;"
            + "move 5 up 0 down 0 stirs 0 takes 1", "up 2 if move>4 and lying");
        due("lie back, rest twice", 7, () -> x.soonest(127));
        due("the same with more bits", 7, () -> x.soonest(-1));
        due("the least row of 7", List.of(12, 10, 10, -1), () -> List.of(x.best(127, 0), x.best(127, 1), x.best(127, 2),
            x.best(127, 3)));
        due("without resting: lie back thrice, or two jerks and twice", List.of(15, 14), () -> List.of(x.soonest(64), x.soonest(65)));
        due("without lying: by jerks alone", -1, () -> x.soonest(1));
        due("a bit that is no move", -1, () -> x.soonest(128));
        due("none has no row", -1, () -> x.best(1, 0));
        due("below 0", -1, () -> x.best(127, -1));
        due("far below 0", -1, () -> x.best(127, LEAST));
        due("far behind", -1, () -> x.best(127, MOST));
        due("out", 0, () -> new WaistSand().soonest(0));
        due("out has no row", -1, () -> new WaistSand().best(127, 0));
        WaistSand two = Check.told("legs 1 2;tide 1;slip 100;move 1 up 1 down 0 stirs 0 takes 3;"
            + "move 2 up 2 down 0 stirs 0 takes 6;move 4 up 1 down 0 stirs 0 takes 3");
        due("no tide, no slips", 9, () -> two.soonest(127));
        due("LEG 0 first, then LEG 1 twice", List.of(2, 3, 3, -1), () -> List.of(two.best(127, 0), two.best(127, 1),
            two.best(127, 2), two.best(127, 3)));
        due("by 2 and 4 alone", List.of(4 + 1, 8), () -> List.of(two.best(20, 0), two.best(20, 1)));
        due("by 2 alone", List.of(4, 5), () -> List.of(two.best(4, 0), two.best(4, 1)));
        due("by 2 alone: 2 of 6", 12, () -> two.soonest(4));
        WaistSand again = Check.told("legs 2 0;move 0 up 1 down 0 stirs 0 takes 1;move 1 up 2 down 0 stirs 0 takes 5;"
            + "move 2 up 9 down 0 stirs 0 takes 3");
        due("two jerks", List.of(0, 0, -1), () -> List.of(again.best(127, 0), again.best(127, 1), again.best(127, 2)));
        Check.beach(again, "legs 4 0");
        due("an answer of before says nothing of now", List.of(4, -1), () -> List.of(again.best(6, 0), again.best(6, 1)));
        Check.law(again, "up 2 if move>4");
        due("nor under another law", List.of(2, 10, 10), () -> List.of(again.soonest(32), again.best(32, 0), again.best(32, 1)));
        WaistSand thin = Check.told("legs 3 3;thin 5", "up 3 if lying and move>4");
        thin.moved(6, 0);
        due("out in thin sand and lying", List.of(1, 10), () -> List.of(thin.soonest(127), thin.best(127, 0)));
        due("out", List.of(0, 1, 5, 1), () -> List.of(thin.moved(5, 0), thin.count(9), thin.count(2), thin.count(3)));
        due("out", List.of(0, 1), () -> List.of(thin.soonest(0), thin.more()));
    }

    // Promises 20, 21
    private static void latestAndWorth() {
        WaistSand x = Check.told("legs 2 2;tide 5;move 5 up 1 down 0 stirs 0 takes 2;move 6 up 0 down 0 stirs 0 takes 1",
            "up 1 if lying and move>4 and move<6;up 1 if calm>2 and move+2>6 and move<6;down 1 if water>3");
        due("soonest", 3, () -> x.soonest(127));
        due("tide less 3 less 1", 1, () -> x.latest());
        due("lying first: 3 less 2", 1, () -> x.worth(0));
        due("talk is worth nothing yet", 0, () -> x.worth(1));
        x.talk();
        x.talk();
        due("with CALM 3: 3 less 2", 1, () -> x.worth(1));
        due("the minute is not looked at", 1, x::latest);
        due("water", 0, () -> x.worth(2));
        Check.beach(x, "water 3");
        due("with more water one never comes out", -99, () -> x.worth(2));
        Check.beach(x, "tide 4");
        due("just in time", 0, x::latest);
        Check.beach(x, "tide 3");
        due("below 0", -1, x::latest);
        Check.beach(x, "tide 2");
        due("far below 0", -1, x::latest);
        WaistSand none = Check.told("legs 2 2");
        due("never", -1, none::latest);
        due("never, nor lying", -99, () -> none.worth(0));
        WaistSand lying = Check.told("legs 2 2;calm 9;water 9", "up 1 if lying or calm<9");
        lying.moved(6, 0);
        due("one lies", 0, () -> lying.worth(0));
        due("9 at most", 0, () -> lying.worth(1));
        due("9 at most", 0, () -> lying.worth(2));
        WaistSand calm = Check.told("legs 2 2;calm 8", "up 2 if calm>8 and move<6 and move>4");
        due("none as it is", -99, () -> calm.worth(1));
        for (int no : new int[] {-1, 3, LEAST, MOST}) {
            due("no what", NSEE, () -> calm.worth(no));
        }
        due("out: tide less 1", 998, () -> new WaistSand().latest());
    }

    // Promises 22, 23
    private static void stuckAndDeepest() {
        WaistSand x = Check.told("legs 3 3;thin 2", "up 1 if thin>1 and thin<4 and leg<7 and other<7;settle 1 if thin>4");
        due("0, 1 and 4 never change; 5 comes to 4", 0b110011, x::stuck);
        due("nothing lifts from 7 on", 6, x::deepest);
        WaistSand none = Check.told("legs 3 3");
        due("all", 63, none::stuck);
        due("at 0 one is out", 0, none::deepest);
        due("out is never stuck", 0, () -> new WaistSand().stuck());
        WaistSand all = Check.told("legs 0 0", "up 1");
        due("9", 9, all::deepest);
    }

    // Promises 24, 25
    private static void roundAndMore() {
        String takes = " up 0 down 0 stirs 0 takes 9;";
        WaistSand x = Check.told("legs 4 4;move 0" + takes + "move 1" + takes + "move 2" + takes + "move 3" + takes
            + "move 4" + takes + "move 5" + takes + "move 6 up 0 down 0 stirs 0 takes 3");
        due("any but lying back", 9, x::round);
        due("lying or not", 2, x::more);
        x.moved(6, 0);
        due("lying back again", 3, x::round);
        due("lying or not", 2, x::more);
        WaistSand stirred = Check.told("legs 4 4", "stir 1");
        due("ever thinner", -1, stirred::round);
        due("THIN 0 to 5, or lying 1 to 5", 11, stirred::more);
        WaistSand jerk = Check.told("legs 5 4", "stir 1 if move>0 or leg<5");
        due("by a jerk of LEG 0 alone", 1, jerk::round);
        WaistSand out = new WaistSand();
        due("nothing moves", -1, out::round);
        due("just this one", 1, out::more);
        WaistSand next = Check.told("legs 1 0", "up 1;stir 1");
        due("out ends it", -1, next::round);
        due("LEG 1 moved: thin, lying; out by the rest", true, () -> next.more() > 3);
    }

    // Promises 26, 27
    private static void runAndBetter() {
        WaistSand x = Check.told("legs 9 4;thin 5;move 5 up 1 down 0 stirs 0 takes 4;tide 10;slip 100");
        due("two rests, then 7 by 1 each: 9 and 14", 23, () -> x.run(9, 6));
        due("nothing is done", 9, () -> x.count(0));
        due("too weak, and too short", -1, () -> x.run(35, 5));
        due("out by resting", 36, () -> x.run(36, 5));
        due("out by resting long ahead", 36, () -> x.run(200, 20));
        due("sooner than 36", true, () -> x.better(9, 6));
        due("not sooner than 36", false, () -> x.better(36, 5));
        due("none", false, () -> x.better(35, 5));
        x.talk();
        due("from the minute on", 24, () -> x.run(9, 6));
        due("from the minute on", true, () -> x.better(9, 6));
        due("34 and 2", true, () -> x.better(33, 20));
        due("36 is not sooner", false, () -> x.better(34, 20));
        WaistSand never = Check.told("legs 2 2");
        due("no way without", true, () -> never.better(200, 20));
        due("202", 202, () -> never.run(200, 20));
        due("3", 3, () -> never.run(1, 20));
        WaistSand out = new WaistSand();
        out.talk();
        due("out", 1, () -> out.run(10, 1));
        due("out is not sooner", false, () -> out.better(10, 1));
        for (int no : new int[] {0, 201, -1, LEAST, MOST}) {
            due("minutes are none", IAE, () -> x.run(no, 5));
            due("minutes are none", IAE, () -> x.better(no, 5));
        }
        for (int no : new int[] {0, 21, -1, LEAST, MOST}) {
            due("force is none", IAE, () -> x.run(5, no));
            due("force is none", IAE, () -> x.better(5, no));
        }
        WaistSand law = Check.told("legs 2 2;thin 4;move 5 up 0 down 0 stirs 0 takes 1", "settle 1");
        due("firm by rest: 8 less 2 less 5", 14, () -> law.run(10, 8));
        due("less firm: 8 less 1 less 5", 4, () -> law.run(2, 8));
    }

    // Promise 28
    private static void force() {
        WaistSand x = Check.told("legs 9 2");
        due("9 pulls by 1", 8, () -> x.force(9, false));
        due("8 pulls by 2", 9, () -> x.force(8, false));
        due("5 are needed, 1 each", 5, () -> x.force(8, true));
        due("one pull by 9", 16, () -> x.force(1, false));
        due("8 of harm", 8, () -> x.force(1, true));
        due("30", 0, () -> x.force(30, true));
        due("out", 1, () -> new WaistSand().force(1, false));
        due("out, no harm", 0, () -> new WaistSand().force(1, true));
        for (int no : new int[] {0, 31, -1, LEAST, MOST}) {
            due("none", IAE, () -> x.force(no, false));
        }
    }

    // Promises 29, 30
    private static void ways() {
        // A wall in column 1 but for its lowest cell, which bears 3.
        WaistSand x = Check.told("person 4 at 0 0;bears 1 0 0;bears 1 1 0;bears 1 2 0;bears 1 3 0;bears 1 4 0;"
            + "bears 1 5 0;bears 1 6 0;bears 1 7 3;bears 0 0 0;person 1 at 7 7;person 9 at 3 3");
        due("none", -1, () -> x.way(0, 2, false));
        due("down, through, and up", 16, () -> x.way(0, 2, true));
        due("the own one bears nothing", 0, () -> x.way(0, 0, false));
        due("column 0", 0x0101010101010101L, () -> x.reach(0, false));
        due("all but the wall", ~0x0002020202020202L, () -> x.reach(0, true));
        due("quick and light: anywhere", -1L, () -> x.reach(1, true));
        due("too heavy", 1L << 27, () -> x.reach(2, true));
        due("into the hole, too", 8, () -> x.way(1, 27, false));
        due("not to one's own weak cell from outside", -1, () -> x.way(1, 0, false));
        for (int no : new int[] {-1, 3, LEAST, MOST}) {
            due("no person", IOOBE, () -> x.way(no, 0, true));
            due("no person", IOOBE, () -> x.reach(no, true));
        }
        for (int no : new int[] {-1, 64, LEAST, MOST}) {
            due("no cell", IOOBE, () -> x.way(0, no, true));
        }
    }

    // Promises 31, 32
    private static void edgeAndSigns() {
        WaistSand x = Check.told("bears 3 2 4;bears 0 7 0;heap 0 0;heap 1 0;heap 3 2;shine 1 0;heap 4 4;shine 5 5;shine 3 3;"
            + "shine 6 6;bears 5 5 2");
        due("up to X 2", 2, () -> x.edge(2, 5));
        due("all of it", 7, () -> x.edge(2, 4));
        due("none", -1, () -> x.edge(7, 1));
        for (int no : new int[] {-1, 8, LEAST, MOST}) {
            due("no row", IAE, () -> x.edge(no, 1));
        }
        due("2 of 3", 66, () -> x.signs(5, false));
        due("3 of 3", 100, () -> x.signs(4, false));
        due("1 of 3 does not", 33, () -> x.signs(5, true));
        due("none does", 100, () -> x.signs(6, true));
        due("without such", 0, () -> new WaistSand().signs(9, true));
        due("without such", 0, () -> new WaistSand().signs(1, false));
        for (int no : new int[] {0, 10, -1, LEAST, MOST}) {
            due("no weight", IAE, () -> x.edge(0, no));
            due("no weight", IAE, () -> x.signs(no, false));
            due("no weight", IAE, () -> x.signs(no, true));
        }
    }

    // Promises 33, 34
    private static void sinkingAndHoles() {
        WaistSand x = Check.told("person 3 at 7 7;person 3 at 7 7;person 5 at 0 0;person 9 at 1 0;bears 1 1 0");
        due("6 on 5, 9 on 5", 1L << 63 | 2, x::sinking);
        due("4 above 5", 8, () -> x.holes(0, 4));
        due("3 above 0", 3, () -> x.holes(9, 3));
        due("9 above 0", 8, () -> x.holes(9, 9));
        due("nobody", 0, () -> x.holes(0, 1));
        due("the cell first", IOOBE, () -> x.holes(64, 0));
        due("the cell first", IOOBE, () -> x.holes(-1, 0));
        for (int no : new int[] {0, 10, -1, LEAST, MOST}) {
            due("so much is none", IAE, () -> x.holes(0, no));
        }
        due("nobody sinks", 0L, () -> new WaistSand().sinking());
    }

    // Promises 35, 36
    private static void ropeAndPlaced() {
        WaistSand x = Check.told("hole 0 0;bears 1 0 9;bears 2 0 0;bears 1 1 0;bears 0 1 6;bears 0 2 1");
        due("5 cells in the corner, those of 1", 1L << 1 | 1L << 8 | 1L << 16, () -> x.rope(1));
        due("those of 6", 1L << 1 | 1L << 8, () -> x.rope(6));
        due("of 9", 2L, () -> x.rope(9));
        due("nobody", 0, x::placed);
        Check.beach(x, "person 1 at 7 7;person 7 at 0 0");
        due("both", 2, x::placed);
        Check.beach(x, "person 8 at 7 7");
        due("one of the heavy two", 2, x::placed);
        Check.beach(x, "person 2 at 7 7");
        due("three of four", 3, x::placed);
        Check.beach(x, "bears 2 0 9");
        due("all four", 4, x::placed);
        WaistSand weak = Check.told("hole 0 0;bears 1 0 0;bears 2 0 0;bears 1 1 0;bears 0 1 0;bears 0 2 0;person 1 at 0 0");
        due("the hole is none of them", 0, weak::placed);
        for (int no : new int[] {0, 10, -1, LEAST, MOST}) {
            due("no weight", IAE, () -> x.rope(no));
        }
        WaistSand middle = Check.told("hole 7 4");
        long near = 1L << 31 | 1L << 47 | 1L << 38 | 1L << 23 | 1L << 55 | 1L << 37 | 1L << 30 | 1L << 46;
        due("at the right edge", near, () -> middle.rope(5));
    }

    // Promises 37, 38
    private static void trialAndSpan() {
        WaistSand x = Check.told("legs 5 5;slip 40;tide 200;move 1 up 2 down 1 stirs 0 takes 3;move 4 up 0 down 2 stirs 0 takes 1");
        int least = 100;
        int most = -1;
        for (int seed = 1; seed <= 6; seed++) {
            x.image();
            x.seed(seed);
            Object trial = x.trial(13, false);
            Object minute = x.trial(13, true);
            x.moves(13);
            int depths = x.count(0) + x.count(1);
            due("as the moves do", depths, () -> trial);
            due("minute", x.count(7), () -> minute);
            least = Math.min(least, depths);
            most = Math.max(most, depths);
            x.back();
        }
        int low = least;
        int high = most;
        due("some spread", true, () -> low < high);
        due("least", low, () -> x.span(13, false));
        due("greatest", high, () -> x.span(13, true));
        due("nothing stays", List.of(5, 5, 0, 0), () -> List.of(x.count(0), x.count(1), x.count(7), x.count(17)));
        due("the seed stays", 1, () -> x.seed(1));
        due("no moves", 10, () -> x.trial(0, false));
        due("no moves", 0, () -> x.trial(0, true));
        due("no moves", 10, () -> x.span(0, true));
        due("40", true, () -> x.trial(40, true) > 0 && x.span(40, false) >= 0);
        for (int no : new int[] {-1, 41, LEAST, MOST}) {
            due("none", IAE, () -> x.trial(no, true));
            due("none", IAE, () -> x.span(no, true));
        }
        Check.beach(x, "tide 0");
        due("drowned", 10, () -> x.trial(40, false));
        due("drowned", 0, () -> x.trial(40, true));
    }

    // Promises 39, 40
    private static void logAndLed() {
        WaistSand x = Check.told("legs 9 8;move 1 up 1 down 0 stirs 0 takes 3;move 2 up 0 down 1 stirs 0 takes 2");
        due("none", -1, () -> x.led(1, true));
        due("no rows", 0, () -> x.led(1, false));
        x.moved(1, 1);
        x.moved(6, 1);
        x.pull(10);
        x.moved(2, 0);
        x.moved(1, 1);
        int[][] rows = {{8, 1, 1, 1, 0}, {6, 2, 0, 1, 1}, {4, 7, 2, 1, 0}, {3, 6, 2, 9, 7}, {0, 1, 1, 9, 7}};
        for (int ago = 0; ago < 5; ago++) {
            for (int what = 0; what < 5; what++) {
                int a = ago;
                int w = what;
                due("row " + a + " " + w, rows[a][w], () -> x.log(a, w));
            }
        }
        due("without", -1, () -> x.log(5, 0));
        due("below 0", -1, () -> x.log(-1, 0));
        due("far", -1, () -> x.log(MOST, 4));
        due("far below", -1, () -> x.log(LEAST, 4));
        for (int no : new int[] {-1, 5, LEAST, MOST}) {
            due("no what", NSEE, () -> x.log(99, no));
        }
        due("rows of 1", 2, () -> x.led(1, false));
        due("rows of none", 2, () -> x.led(2, false));
        due("latest of none", 7, () -> x.led(2, true));
        due("latest of 0", 2, () -> x.led(0, true));
        for (int no : new int[] {-1, 3, LEAST, MOST}) {
            due("no leg", IOOBE, () -> x.led(no, true));
        }
        WaistSand y = Check.told("legs 9 9");
        for (int i = 0; i < 61; i++) {
            y.moved(i == 0 ? 2 : 1, 0);
        }
        due("60 rows", 60, () -> y.count(17));
        due("the first is gone", 1, () -> y.log(59, 1));
        due("the first is gone", 1, () -> y.log(59, 0));
        due("no more", -1, () -> y.log(60, 0));
        due("60 of LEG 0", 60, () -> y.led(0, false));
        due("undone", true, y::undo);
        due("the first is back", 2, () -> y.log(59, 1));
    }

    // Promise 42
    private static void undo() {
        WaistSand x = Check.told("legs 5 5;boards 1;person 2 at 0 0;move 1 up 1 down 0 stirs 1 takes 3");
        x.moved(1, 0);
        x.moved(6, 0);
        x.pull(12);
        x.talk();
        x.pour();
        x.walk(0, 1);
        x.board(9);
        x.seed(55);
        due("seven acts", 7, () -> x.count(18));
        due("a board", true, x::undo);
        due("taken up", List.of(5, 1), () -> List.of(x.cell(9, 0), x.count(14)));
        due("the seed of then", true, () -> x.seed(3) != 55);
        due("a step", true, x::undo);
        due("back", 0, () -> x.person(0, 1));
        due("water and talk", List.of(true, true), () -> List.of(x.undo(), x.undo()));
        due("as ahead", List.of(0, 0, 6), () -> List.of(x.count(4), x.count(5), x.count(7)));
        due("the pull", true, x::undo);
        due("as ahead", List.of(4, 5, 1, 1, 0, 4, 2), () -> List.of(x.count(0), x.count(1), x.count(2), x.count(3), x.count(6),
            x.count(7), x.count(17)));
        due("the moves", List.of(true, true, false), () -> List.of(x.undo(), x.undo(), x.undo()));
        counts(x, "as at first", 5, 5, 0, 0, 0, 0, 0, 0, 999, 0, 0, 0, 27, 1, 1, 1, -1, 0, 0);
        due("the first seed", 1, () -> x.seed(1));
        for (int i = 0; i < 14; i++) {
            x.talk();
        }
        due("12 are remembered", 12, () -> x.count(18));
        for (int i = 0; i < 12; i++) {
            due("undone", true, x::undo);
        }
        due("no more", false, x::undo);
        due("two stay", 2, () -> x.count(7));
        x.talk();
        Check.beach(x, "y");
        due("a wrong text forgets nothing", 1, () -> x.count(18));
        Check.law(x, "y");
        due("nor a wrong law", 1, () -> x.count(18));
        Check.answer(() -> x.pull(0));
        due("nor what throws", 1, () -> x.count(18));
        Check.law(x, "");
        due("a law does", 0, () -> x.count(18));
        x.talk();
        Check.beach(x, "");
        due("a text does", false, x::undo);
        x.moved(1, 0);
        x.moves(10);
        due("moves of one call are one", 2, () -> x.count(18));
        x.feed(0, 0, 0, 0, 0);
        Check.answer(x::law);
        x.feed(0, 0, 0, 0, 0);
        due("undone", true, x::undo);
        due("but for the tape", true, () -> x.end(20));
        due("but for the fault", 0, x::fault);
    }

    // Promises 43, 44
    private static void image() {
        WaistSand x = Check.told("legs 5 5;boards 3;person 2 at 0 0;tide 50", "up 1");
        x.moved(1, 0);
        x.image();
        x.talk();
        due("an image is no act, and takes none", 2, () -> x.count(18));
        Check.beach(x, "legs 1 1;person 3 at 1 1;heap 1 1;shine 1 1;hole 7 7;bears 1 1 9;tide 9;slip 9;move 1 up 9 down 9 stirs 5 takes 9");
        Check.law(x, "up 1;up 2");
        x.board(3);
        x.seed(9);
        x.feed(1, 1, 1, 1, 1);
        due("back", true, x::back);
        counts(x, "as it was", 4, 5, 0, 0, 0, 0, 0, 1, 50, 0, 0, 0, 27, 1, 3, 1, 1, 1, 0);
        due("the tape stays", true, () -> x.end(20));
        due("moves as told then", 0, () -> x.move(1, 0));
        due("bears", 5, () -> x.cell(9, 0));
        due("heap", 0, () -> x.cell(9, 1));
        due("shine", 0, () -> x.cell(9, 2));
        due("law", 3, () -> x.would(1, 0, 0));
        due("ways by that law", true, () -> x.soonest(127) > 0);
        due("nothing to undo", false, x::undo);
        x.end(0);
        x.talk();
        due("again", true, x::back);
        due("again", 0, () -> x.count(4));
        x.talk();
        x.image();
        x.talk();
        due("a later image", true, x::back);
        due("CALM", 1, () -> x.count(4));
        x.talk();
        due("undone", true, x::undo);
        due("the image is not undone", true, x::back);
    }

    // Terms: DROWNED
    private static void drowned() {
        WaistSand x = Check.told("legs 1 1;tide 3;boards 1;person 1 at 0 0;move 5 up 9 down 0 stirs 0 takes 2");
        x.talk();
        x.talk();
        due("not yet", 0, () -> x.count(10));
        x.pour();
        due("drowned", 1, () -> x.count(10));
        due("no talk", ISE, x::talk);
        due("no water", ISE, x::pour);
        due("no pull", ISE, () -> x.pull(20));
        due("no move", ISE, () -> x.moved(5, 0));
        due("no draws", 0, () -> x.moves(3));
        due("one may walk", 5, () -> x.walk(0, 1));
        due("one may lay a board", 8, () -> x.board(1));
        due("tide is not looked at", 2, () -> x.soonest(127));
        WaistSand saved = Check.told("legs 1 1;tide 3;move 5 up 9 down 0 stirs 0 takes 5");
        due("out past the tide", 0, () -> saved.moved(5, 0));
        due("is not drowned", 0, () -> saved.count(10));
        due("talk goes on", 1, saved::talk);
    }
}
