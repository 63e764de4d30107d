import java.util.ArrayList;
import java.util.List;

/** Edges of MOVES, PULLS, talk, water, draws, trials, THE LOG, what is undone and THE IMAGE: promises 7, 10 to 13, 16, 17, 37 to 45. */
final class BodyEdges {
    private static final String IAE = "IllegalArgumentException";
    private static final String ISE = "IllegalStateException";
    private static final String IOOBE = "IndexOutOfBoundsException";
    private static final String NSEE = "NoSuchElementException";
    private static final int LEAST = Integer.MIN_VALUE;
    private static final int MOST = Integer.MAX_VALUE;

    private BodyEdges() {
    }

    static void look() {
        move();
        out();
        drowned();
        movedNumbers();
        moveOfLeg();
        moveOfNone();
        thin();
        lying();
        minute();
        slip();
        seeds();
        pullForce();
        pullLift();
        harm();
        talk();
        pour();
        moves();
        would();
        trial();
        span();
        led();
        log();
        undo();
        undoForgets();
        image();
        count();
        throwing();
        manyCalls();
    }

    private static void due(String what, Object want, Check.Call call) {
        Doc.due(what, want, call);
    }

    private static List<Integer> counts(WaistSand x, int... whats) {
        List<Integer> found = new ArrayList<>();
        for (int what : whats) {
            found.add(x.count(what));
        }
        return found;
    }

    private static WaistSand lyingOne(String beach) {
        WaistSand x = Check.told("legs 9 9");
        x.moved(6, 0);
        Check.beach(x, beach);
        return x;
    }

    private static void move() {
        Doc.says("Of a MOVE what 0 UP, 1 DOWN, 2 STIRS, 3 TAKES, 4 HELPS. NoSuchElementException: another what.", 7);
        WaistSand x = Check.told("move 0 up 1 down 2 stirs 3 takes 4;move 6 up 5 down 6 stirs 4 takes 8");
        due("MOVE 0", List.of(1, 2, 3, 4, 0), () -> List.of(x.move(0, 0), x.move(0, 1), x.move(0, 2), x.move(0, 3), x.move(0, 4)));
        due("MOVE 6", List.of(5, 6, 4, 8, 0), () -> List.of(x.move(6, 0), x.move(6, 1), x.move(6, 2), x.move(6, 3), x.move(6, 4)));
        for (int what : new int[] {-1, 5, LEAST, MOST}) {
            due("what " + what, NSEE, () -> x.move(6, what));
        }
        Doc.says("IndexOutOfBoundsException: there is no such LEG, MOVE, CELL, PERSON.", 7, 10, 17);
        for (int move : new int[] {-1, 7, LEAST, MOST}) {
            due("MOVE " + move, IOOBE, () -> x.move(move, 0));
            due("MOVE " + move + " ahead of what", IOOBE, () -> x.move(move, 5));
        }
        Doc.says("MOVES 0 to 6, each of one LEG (0 to 4: jerked, wriggled, drawn, kicked, shaken) or of none (5 rests, 6 lies back);", 10);
        for (int move = 0; move < 7; move++) {
            for (int leg = 0; leg < 2; leg++) {
                int m = move;
                int l = leg;
                WaistSand y = Check.told("legs 5 5", "up 1");
                due("MOVE " + m, m < 5 ? 9 : 8, () -> y.moved(m, l));
                due("its LEG in THE LOG", m < 5 ? l : 2, () -> y.log(0, 2));
            }
        }
    }

    private static void out() {
        Doc.says("OUT: both DEPTHS are 0.", 10, 45);
        due("0 0", 1, () -> Check.told("legs 0 0").count(9));
        due("0 1", 0, () -> Check.told("legs 0 1").count(9));
        due("1 0", 0, () -> Check.told("legs 1 0").count(9));
        due("1 1", 0, () -> Check.told("legs 1 1").count(9));
        due("0 0, thin 5", 1, () -> Check.told("legs 0 0;thin 5").count(9));
        due("0 1, thin 0", 0, () -> Check.told("legs 0 1;thin 0").count(9));
        due("0 0, thin 5, lying", 1, () -> lyingOne("legs 0 0;thin 5").count(9));
        due("0 1, thin 0, lying", 0, () -> lyingOne("legs 0 1;thin 0").count(9));
        Doc.says("Nothing moves, if one is OUT, or DROWNED.", 10, 11, 16);
        due("0 1 moves", 1, () -> Check.told("legs 0 1").moved(0, 0));
        due("1 0 moves", 1, () -> Check.told("legs 1 0").moved(0, 0));
        WaistSand x = Check.told("legs 0 0", "down 5");
        due("moved", ISE, () -> x.moved(5, 0));
        due("pull", ISE, () -> x.pull(20));
        due("moves", 0, () -> x.moves(60));
        due("all is as it was", List.of(0, 0, 0, 0, 0, 0), () -> counts(x, 0, 1, 2, 6, 7, 17));
        WaistSand y = Check.told("legs 5 5;tide 0", "up 5");
        due("moved", ISE, () -> y.moved(5, 0));
        due("pull", ISE, () -> y.pull(20));
        due("moves", 0, () -> y.moves(60));
        due("all is as it was", List.of(5, 5, 0, 0, 0, 0), () -> counts(y, 0, 1, 2, 6, 7, 17));
    }

    private static void drowned() {
        Doc.says("DROWNED, if MINUTE is TIDE at least and one is not OUT.", 10, 45);
        for (int takes = 2; takes <= 4; takes++) {
            WaistSand x = Check.told("legs 5 5;tide 3;move 5 up 0 down 0 stirs 0 takes " + takes);
            x.moved(5, 0);
            due("MINUTE " + takes + " of TIDE 3", takes < 3 ? 0 : 1, () -> x.count(10));
            due("moved", takes < 3 ? 10 : ISE, () -> x.moved(5, 0));
            WaistSand y = Check.told("legs 5 5;tide 3;move 5 up 5 down 0 stirs 0 takes " + takes);
            y.moved(5, 0);
            due("OUT at MINUTE " + takes, List.of(1, 0), () -> counts(y, 9, 10));
        }
        due("TIDE 0", 1, () -> Check.told("legs 0 1;tide 0").count(10));
        due("TIDE 0, OUT", 0, () -> Check.told("legs 0 0;tide 0").count(10));
        due("TIDE 1", 0, () -> Check.told("legs 0 1;tide 1").count(10));
        WaistSand last = Check.told("legs 5 5;move 5 up 0 down 0 stirs 0 takes 30");
        for (int i = 0; i < 33; i++) {
            last.moved(5, 0);
        }
        for (int i = 0; i < 8; i++) {
            last.talk();
        }
        due("MINUTE 998 of TIDE 999", List.of(998, 0), () -> counts(last, 7, 10));
        last.talk();
        due("MINUTE 999 of TIDE 999", List.of(999, 1), () -> counts(last, 7, 10));
        Check.beach(last, "legs 0 0");
        last.talk();
        due("MINUTE may be above TIDE", List.of(1000, 0), () -> counts(last, 7, 10));
    }

    private static void movedNumbers() {
        Doc.says("A MOVE of a LEG: both DEPTHS together then. IllegalStateException: one is OUT, or DROWNED.", 10);
        due("9 and 9", 18, () -> Check.told("legs 9 9").moved(0, 0));
        due("0 and 1", 1, () -> Check.told("legs 0 1").moved(0, 0));
        due("OUT by it", 0, () -> Check.told("legs 0 1;move 0 up 1 down 0 stirs 0 takes 1").moved(0, 1));
        due("OUT", ISE, () -> Check.told("legs 0 0").moved(0, 0));
        due("DROWNED", ISE, () -> Check.told("legs 1 1;tide 0").moved(0, 0));
        Doc.says("IndexOutOfBoundsException: there is no such LEG, MOVE, CELL, PERSON.", 10);
        WaistSand x = Check.told("legs 9 9");
        for (int no : new int[] {-1, 7, LEAST, MOST}) {
            due("MOVE " + no, IOOBE, () -> x.moved(no, 0));
        }
        for (int no : new int[] {-1, 2, LEAST, MOST}) {
            due("LEG " + no, IOOBE, () -> x.moved(4, no));
            due("LEG " + no + " of none", IOOBE, () -> x.moved(5, no));
        }
        due("nothing was done", List.of(0, 0, 0), () -> counts(x, 7, 17, 18));
        due("MOVE 0, LEG 0", 18, () -> x.moved(0, 0));
        due("MOVE 6, LEG 1", 18, () -> x.moved(6, 1));
    }

    private static List<Integer> depths(String beach, String law, int move, int leg) {
        WaistSand x = Check.told(beach, law);
        x.moved(move, leg);
        return counts(x, 0, 1);
    }

    private static void moveOfLeg() {
        Doc.says("that one is less deep by UP and the sum of N of all up LINES that hold (0 at least),", 10);
        for (int up = 4; up <= 6; up++) {
            String beach = "legs 5 7;move 1 up " + up + " down 0 stirs 0 takes 1";
            due("LEG 0 at 5, UP " + up, List.of(Math.max(0, 5 - up), 7), () -> depths(beach, "", 1, 0));
            String other = "legs 7 5;move 1 up " + up + " down 0 stirs 0 takes 1";
            due("LEG 1 at 5, UP " + up, List.of(7, Math.max(0, 5 - up)), () -> depths(other, "", 1, 1));
            String law = "up 1;up 9 if lying;up 2 if move<2;up " + (up - 3) + " if not move>1";
            due("LEG 0 at 5, UP and LINES " + up, List.of(Math.max(0, 5 - up), 7), () -> depths("legs 5 7", law, 1, 0));
        }
        due("far below 0", List.of(0, 7), () -> depths("legs 9 7", "up 9;".repeat(11) + "up 9", 1, 0));
        Doc.says("the other one deeper by DOWN and the sum of all down LINES (9 at most);", 10);
        for (int down = 3; down <= 5; down++) {
            String beach = "legs 7 5;move 1 up 0 down " + down + " stirs 0 takes 1";
            due("LEG 1 at 5, DOWN " + down, List.of(7, Math.min(9, 5 + down)), () -> depths(beach, "", 1, 0));
            String other = "legs 5 7;move 1 up 0 down " + down + " stirs 0 takes 1";
            due("LEG 0 at 5, DOWN " + down, List.of(Math.min(9, 5 + down), 7), () -> depths(other, "", 1, 1));
            String law = "down 1;down 9 if lying;down 1 if move<2;down " + (down - 2) + " if not move>1";
            due("LEG 1 at 5, DOWN and LINES " + down, List.of(7, Math.min(9, 5 + down)), () -> depths("legs 7 5", law, 1, 0));
        }
        due("far above 9", List.of(7, 9), () -> depths("legs 7 1", "down 9;".repeat(11) + "down 9", 1, 0));
    }

    private static void moveOfNone() {
        Doc.says("of none: both LEGS are less deep by UP and the up LINES (0 at least), then deeper by DOWN and the down LINES (9 at most).", 10);
        for (int move = 5; move <= 6; move++) {
            for (int leg = 0; leg < 2; leg++) {
                int m = move;
                int l = leg;
                String head = "legs 3 8;move " + m;
                due("UP 2", List.of(1, 6), () -> depths(head + " up 2 down 0 stirs 0 takes 1", "", m, l));
                due("UP 3", List.of(0, 5), () -> depths(head + " up 3 down 0 stirs 0 takes 1", "", m, l));
                due("UP 4", List.of(0, 4), () -> depths(head + " up 4 down 0 stirs 0 takes 1", "", m, l));
                due("UP 5, then DOWN 1", List.of(1, 4), () -> depths(head + " up 5 down 1 stirs 0 takes 1", "", m, l));
                due("DOWN 1", List.of(4, 9), () -> depths(head + " up 0 down 1 stirs 0 takes 1", "", m, l));
                due("DOWN 2", List.of(5, 9), () -> depths(head + " up 0 down 2 stirs 0 takes 1", "", m, l));
                due("UP 1, then DOWN 3", List.of(5, 9), () -> depths(head + " up 1 down 3 stirs 0 takes 1", "", m, l));
                due("by LINES", List.of(3, 5), () -> depths("legs 3 8", "up 4;up 2;up 9 if lying;down 3;down 9 if lying", m, l));
            }
        }
    }

    private static int thinBy(int thin, int stirs, String law) {
        WaistSand x = Check.told("legs 9 9;thin " + thin + ";move 1 up 0 down 0 stirs " + stirs + " takes 1", law);
        x.moved(1, 0);
        return x.count(2);
    }

    private static void thin() {
        Doc.says("THIN is more by STIRS and the sum of all stir LINES, less by that of all settle LINES (as one sum; 0 to 5 then).", 10);
        due("3 and 1", 4, () -> thinBy(3, 1, ""));
        due("3 and 2", 5, () -> thinBy(3, 2, ""));
        due("3 and 3", 5, () -> thinBy(3, 3, ""));
        due("0 and 5", 5, () -> thinBy(0, 5, ""));
        due("3, 1 and 1", 5, () -> thinBy(3, 1, "stir 1"));
        due("3, 1 and 2", 5, () -> thinBy(3, 1, "stir 1;stir 1"));
        due("3 less 2", 1, () -> thinBy(3, 0, "settle 2"));
        due("3 less 3", 0, () -> thinBy(3, 0, "settle 2;settle 1"));
        due("3 less 4", 0, () -> thinBy(3, 0, "settle 4"));
        due("3 and 5 less 4: one sum", 4, () -> thinBy(3, 5, "settle 4"));
        due("3 less 9 and 9", 3, () -> thinBy(3, 0, "settle 9;stir 9"));
        due("3 and 9 less 9", 3, () -> thinBy(3, 0, "stir 9;settle 9"));
        due("those alone that hold", 4, () -> thinBy(3, 1, "stir 5 if lying;settle 5 if lying"));
    }

    private static void lying() {
        Doc.says("LYING: so behind MOVE 6, not behind MOVES 0, 3, 4, else as it was.", 10, 17);
        int[] behind = {0, -1, -1, 0, 0, -1, 1};
        for (int move = 0; move < 7; move++) {
            int m = move;
            WaistSand stands = Check.told("legs 9 9");
            int wasStanding = behind[m] < 0 ? 0 : behind[m];
            due("MOVE " + m + " would, of one who stands", wasStanding, () -> stands.would(m, 0, 3));
            stands.moved(m, 0);
            due("MOVE " + m + " of one who stands", wasStanding, () -> stands.count(3));
            WaistSand lies = lyingOne("legs 9 9");
            int wasLying = behind[m] < 0 ? 1 : behind[m];
            due("MOVE " + m + " would, of one who lies", wasLying, () -> lies.would(m, 0, 3));
            lies.moved(m, 1);
            due("MOVE " + m + " of one who lies", wasLying, () -> lies.count(3));
        }
        WaistSand lies = lyingOne("legs 9 9");
        lies.pull(20);
        lies.talk();
        lies.pour();
        due("by no other act", 1, () -> lies.count(3));
    }

    private static void minute() {
        Doc.says("MINUTE is more by TAKES.", 10);
        for (int takes : new int[] {1, 2, 29, 30}) {
            WaistSand x = Check.told("legs 9 9;move 2 up 0 down 0 stirs 0 takes " + takes);
            x.moved(2, 0);
            due("TAKES " + takes, takes, () -> x.count(7));
            x.moved(2, 1);
            due("twice", 2 * takes, () -> x.count(7));
        }
        Doc.says("MINUTE 0 to 9999;", 10, 45);
        WaistSand x = Check.told("legs 1 1;tide 999;move 5 up 0 down 0 stirs 0 takes 30;move 6 up 9 down 0 stirs 0 takes 30");
        for (int i = 0; i < 33; i++) {
            x.moved(5, 0);
        }
        x.moved(6, 0);
        for (int i = 0; i < 300; i++) {
            x.talk();
        }
        // No run of 512 calls comes to 9999: from TIDE on only talk and water go on, by a MINUTE each.
        due("990, 30 and 300", 1320, () -> x.count(7));
    }

    /** By other means than the class: as whole numbers without a sign. */
    private static long drawn(int seed) {
        return next(seed) / 65536 % 32768;
    }

    private static long next(int seed) {
        return (1103515245L * seed + 12345L) & 0xffffffffL;
    }

    private static int seedThatDraws(int hundredths) {
        int seed = 1;
        while (drawn(seed) % 100 != hundredths) {
            seed++;
        }
        return seed;
    }

    private static void slip() {
        Doc.says("DRAW modulo 100 below SLIP:", 10);
        for (int drawn : new int[] {0, 1, 50, 98, 99}) {
            for (int slip = Math.max(0, drawn - 1); slip <= drawn + 1; slip++) {
                WaistSand x = Check.told("legs 5 5;slip " + slip);
                x.seed(seedThatDraws(drawn));
                due(drawn + " of SLIP " + slip, drawn < slip ? 12 : 10, () -> x.moved(1, 0));
            }
        }
        Doc.says("LEG 0 and LEG 1 are 1 deeper each behind the MOVE (9 at most), if it is not OUT by it.", 10);
        due("8 7", List.of(9, 8), () -> depths("legs 8 7;slip 100", "", 1, 0));
        due("9 8", List.of(9, 9), () -> depths("legs 9 8;slip 100", "", 1, 0));
        due("9 9", List.of(9, 9), () -> depths("legs 9 9;slip 100", "", 5, 0));
        due("0 1", List.of(1, 2), () -> depths("legs 0 1;slip 100", "", 1, 0));
        due("behind the MOVE", List.of(9, 6), () -> depths("legs 9 5;slip 100", "up 1", 1, 0));
        due("OUT by it", List.of(0, 0), () -> depths("legs 1 0;slip 100", "up 1", 1, 0));
        due("OUT by resting", List.of(0, 0), () -> depths("legs 1 1;slip 100", "up 1", 5, 0));
        due("one LEG alone is", List.of(1, 2), () -> depths("legs 1 1;slip 100", "up 1", 1, 0));
        Doc.says("A SLIP (in MOVES that are made as acts, in trials):", 10, 16, 17, 26, 37);
        WaistSand x = Check.told("legs 5 5;slip 100");
        due("a trial", 12, () -> x.trial(1, false));
        due("would", List.of(5, 5), () -> List.of(x.would(1, 0, 0), x.would(1, 0, 1)));
        due("moves", 1, () -> x.moves(1));
        due("moves", List.of(6, 6), () -> counts(x, 0, 1));
        x.pull(1);
        due("no slip in a PULL", List.of(6, 6), () -> counts(x, 0, 1));
        due("as the row has them", List.of(6, 6), () -> List.of(x.log(1, 3), x.log(1, 4)));
    }

    private static void seeds() {
        Doc.says("DRAW: SEED is 1103515245 times SEED and 12345, as an int that goes round; bits 16 to 30", 16, 41);
        for (int seed : new int[] {0, 1, 2, -1, MOST, LEAST, LEAST + 1, 12345, -987654321, 0x40000000}) {
            WaistSand x = Check.told("legs 9 9");
            x.seed(seed);
            x.moves(1);
            int second = (int) next(seed);
            int third = (int) next(second);
            long move = drawn(seed) % 7;
            due("which, from SEED " + seed, (int) move, () -> x.log(0, 1));
            due("LEG, from SEED " + seed, move > 4 ? 2 : (int) (drawn(second) % 2), () -> x.log(0, 2));
            due("SEED behind it", (int) next(third), () -> x.seed(seed));
            due("SEED: what it was", seed, () -> x.seed(seed));
        }
        Doc.says("(A DRAW for each MOVE that is made.)", 10, 16);
        WaistSand x = Check.told("legs 9 9;slip 0;boards 1;person 1 at 0 0");
        x.moved(5, 0);
        due("one, also of SLIP 0", (int) next(1), () -> x.seed(1));
        x.pull(1);
        x.talk();
        x.pour();
        x.board(0);
        x.walk(0, 1);
        x.would(0, 0, 0);
        x.trial(9, true);
        x.span(9, true);
        due("none by what is no MOVE", 1, () -> x.seed(1));
        Doc.says("SEED: what it was.", 41);
        due("the least", 1, () -> x.seed(LEAST));
        due("the greatest", LEAST, () -> x.seed(MOST));
        due("0", MOST, () -> x.seed(0));
        due("below 0", 0, () -> x.seed(-1));
        due("1", -1, () -> x.seed(1));
        due("no act", 6, () -> x.count(18));
    }

    private static void pullForce() {
        Doc.says("PULLED by a FORCE 1 to 20:", 11);
        for (int force : new int[] {1, 2, 19, 20}) {
            WaistSand x = Check.told("legs 9 9");
            due("FORCE " + force, Math.max(0, force - 8), () -> x.pull(force));
            due("a row", 1, () -> x.count(17));
        }
        Doc.says("IllegalArgumentException: the FORCE is none; IllegalStateException: one is OUT, or DROWNED.", 11);
        for (int force : new int[] {0, 21, -1, LEAST, MOST}) {
            WaistSand x = Check.told("legs 9 9");
            due("FORCE " + force, IAE, () -> x.pull(force));
            due("nothing was done", List.of(9, 9, 0, 0, 0, 0), () -> counts(x, 0, 1, 6, 7, 17, 18));
            due("FORCE " + force + ", also if OUT", IAE, () -> new WaistSand().pull(force));
            due("FORCE " + force + ", also if DROWNED", IAE, () -> Check.told("legs 1 1;tide 0").pull(force));
        }
        due("OUT", ISE, () -> new WaistSand().pull(1));
        due("DROWNED", ISE, () -> Check.told("legs 1 1;tide 0").pull(20));
        due("not yet DROWNED", 0, () -> Check.told("legs 1 1;tide 1").pull(8));
    }

    private static void pullLift() {
        Doc.says("each LEG is less deep by FORCE less the half of 5 less THIN, rounded down, and 5 less than that, if one is not LYING"
            + " (nothing, if that is below 0);", 11);
        int[] halves = {2, 2, 1, 1, 0, 0};
        for (int thin = 0; thin <= 5; thin++) {
            for (int lies = 0; lies < 2; lies++) {
                int least = halves[thin] + (lies == 1 ? 0 : 5);
                for (int force = Math.max(1, least - 1); force <= least + 10; force++) {
                    String beach = "legs 9 4;thin " + thin;
                    WaistSand x = lies == 1 ? lyingOne(beach) : Check.told(beach);
                    x.pull(force);
                    int lift = Math.max(0, force - least);
                    due("THIN " + thin + " LYING " + lies + " FORCE " + force, List.of(Math.max(0, 9 - lift), Math.max(0, 4 - lift),
                        thin, lies), () -> counts(x, 0, 1, 2, 3));
                }
            }
        }
    }

    private static void harm() {
        Doc.says("HARM is more by what FORCE is above 8 (999 at most), and MINUTE by 2.", 11);
        for (int force : new int[] {1, 7, 8, 9, 10, 20}) {
            WaistSand x = Check.told("legs 9 9");
            x.pull(force);
            due("FORCE " + force, List.of(Math.max(0, force - 8), 2), () -> counts(x, 6, 7));
        }
        Doc.says("HARM 0 to 999.", 11, 45);
        WaistSand x = Check.told("legs 9 9", "down 9");
        for (int i = 0; i < 142; i++) {
            x.pull(15);
            x.moved(5, 0);
        }
        x.image();
        due("142 of 7", 994, () -> x.count(6));
        due("994 and 4", 998, () -> x.pull(12));
        due("998 and 1", 999, () -> x.pull(9));
        x.moved(5, 0);
        due("999 and 1", 999, () -> x.pull(9));
        due("999 and 0", 999, () -> x.pull(8));
        x.back();
        due("994 and 5", 999, () -> x.pull(13));
        x.back();
        due("994 and 6", 999, () -> x.pull(14));
        x.back();
        due("994 and 12", 999, () -> x.pull(20));
        due("it stands so", 999, () -> x.count(6));
    }

    private static void talk() {
        Doc.says("talk: CALM is 1 more (9 at most), MINUTE 1 more;", 12);
        WaistSand x = Check.told("calm 7");
        for (int i = 1; i <= 4; i++) {
            int n = i;
            due("talk", Math.min(9, 7 + n), x::talk);
            due("CALM, MINUTE, acts", List.of(Math.min(9, 7 + n), n, n), () -> counts(x, 4, 7, 18));
        }
        Doc.says("Talk: CALM then. IllegalStateException: one is DROWNED.", 12);
        WaistSand last = Check.told("legs 0 1;tide 1");
        due("a MINUTE ahead of TIDE", 1, last::talk);
        due("DROWNED", ISE, last::talk);
        due("nothing was done", List.of(1, 1, 1), () -> counts(last, 4, 7, 18));
        WaistSand out = Check.told("legs 0 0;tide 0");
        due("OUT one talks on", 1, out::talk);
    }

    private static void pour() {
        Doc.says("water is let down: WATER 1 more (9 at most), MINUTE 1 more;", 13);
        WaistSand x = Check.told("water 7");
        for (int i = 1; i <= 4; i++) {
            int n = i;
            due("pour", Math.min(9, 7 + n), x::pour);
            due("WATER, MINUTE, acts", List.of(Math.min(9, 7 + n), n, n), () -> counts(x, 5, 7, 18));
        }
        Doc.says("Water is let down: WATER then. IllegalStateException: one is DROWNED.", 13);
        WaistSand last = Check.told("legs 1 0;tide 1");
        due("a MINUTE ahead of TIDE", 1, last::pour);
        due("DROWNED", ISE, last::pour);
        due("nothing was done", List.of(1, 1, 1), () -> counts(last, 5, 7, 18));
        WaistSand out = Check.told("legs 0 0;tide 0");
        due("OUT it goes on", 1, out::pour);
    }

    private static int afterDraws(int seed, int draws) {
        int now = seed;
        for (int i = 0; i < draws; i++) {
            now = (int) next(now);
        }
        return now;
    }

    private static void moves() {
        Doc.says("So many MOVES by draws (1 to 60): how many were made. IllegalArgumentException: they are none.", 16);
        for (int n : new int[] {1, 2, 59, 60}) {
            WaistSand x = Check.told("legs 9 9");
            due("moves(" + n + ")", n, () -> x.moves(n));
            due("rows, MINUTE, acts", List.of(n, n, 1), () -> counts(x, 17, 7, 18));
            due("draws", afterDraws(1, 3 * n), () -> x.seed(1));
        }
        for (int n : new int[] {0, 61, -1, LEAST, MOST}) {
            WaistSand x = Check.told("legs 9 9");
            due("moves(" + n + ")", IAE, () -> x.moves(n));
            due("nothing was done", List.of(0, 0, 0), () -> counts(x, 17, 7, 18));
            due("also if OUT", IAE, () -> new WaistSand().moves(n));
        }
        Doc.says("MOVES by draws: so many, each: DRAW modulo 7 which, DRAW modulo 2 which LEG (also for those of none);", 16);
        WaistSand x = Check.told("legs 9 9");
        x.moves(60);
        int seed = 1;
        int ofNone = 0;
        for (int ago = 59; ago >= 0; ago--) {
            int a = ago;
            int move = (int) (drawn(seed) % 7);
            int leg = (int) (drawn((int) next(seed)) % 2);
            ofNone += move > 4 ? 1 : 0;
            due("row " + a, List.of(move, move > 4 ? 2 : leg), () -> List.of(x.log(a, 1), x.log(a, 2)));
            seed = afterDraws(seed, 3);
        }
        int none = ofNone;
        due("some of none", true, () -> none > 5);
        Doc.says("nothing more is drawn, once one is OUT or DROWNED.", 16, 37);
        for (int tide = 0; tide <= 3; tide++) {
            int t = tide;
            WaistSand y = Check.told("legs 9 9;tide " + t);
            due("TIDE " + t, t, () -> y.moves(60));
            due("draws", afterDraws(1, 3 * t), () -> y.seed(1));
        }
        WaistSand out = Check.told("legs 1 1;slip 100", "up 9");
        int made = out.moves(60);
        due("OUT ahead of 60", true, () -> made < 60 && out.count(9) == 1);
        due("draws", afterDraws(1, 3 * made), () -> out.seed(1));
        due("OUT: none", 0, () -> out.moves(60));
        due("no draws", 1, () -> out.seed(1));
        due("an act all the same", 2, () -> out.count(18));
    }

    private static void would() {
        Doc.says("WOULD: DEPTHS of LEG 0, LEG 1, THIN by a MOVE of a LEG as all is (no SLIP; OUT, DROWNED not looked at).", 17);
        String move = "move 1 up 1 down 2 stirs 3 takes 4;slip 100;";
        for (String beach : new String[] {"legs 0 0;tide 999", "legs 0 0;tide 0", "legs 3 3;tide 0", "legs 3 3;tide 1"}) {
            WaistSand x = Check.told(move + beach);
            int own = Math.max(0, x.count(0) - 1);
            int other = x.count(0) + 2;
            due("LEG 0, " + beach, List.of(own, other, 3), () -> List.of(x.would(1, 0, 0), x.would(1, 0, 1), x.would(1, 0, 2)));
            due("LEG 1, " + beach, List.of(other, own, 3), () -> List.of(x.would(1, 1, 0), x.would(1, 1, 1), x.would(1, 1, 2)));
            due("nothing was done", List.of(0, 0, 0, 0), () -> counts(x, 2, 7, 17, 18));
            due("nothing was drawn", 1, () -> x.seed(1));
        }
        Doc.says("WOULD what 0, 1 the DEPTH of a LEG of that number, 2 THIN, 3 1 if LYING. NoSuchElementException: another what.", 17);
        WaistSand x = Check.told("legs 4 6;thin 2");
        due("MOVE 6", List.of(4, 6, 2, 1), () -> List.of(x.would(6, 1, 0), x.would(6, 1, 1), x.would(6, 1, 2), x.would(6, 1, 3)));
        due("MOVE 0", List.of(4, 6, 2, 0), () -> List.of(x.would(0, 1, 0), x.would(0, 1, 1), x.would(0, 1, 2), x.would(0, 1, 3)));
        for (int no : new int[] {-1, 4, LEAST, MOST}) {
            due("what " + no, NSEE, () -> x.would(0, 0, no));
        }
        Doc.says("IndexOutOfBoundsException: there is no such LEG, MOVE, CELL, PERSON.", 17);
        for (int no : new int[] {-1, 7, LEAST, MOST}) {
            due("MOVE " + no, IOOBE, () -> x.would(no, 0, 0));
            due("MOVE " + no + " ahead of what", IOOBE, () -> x.would(no, 0, 4));
        }
        for (int no : new int[] {-1, 2, LEAST, MOST}) {
            due("LEG " + no, IOOBE, () -> x.would(0, no, 0));
            due("LEG " + no + " of none", IOOBE, () -> x.would(6, no, 0));
            due("LEG " + no + " ahead of what", IOOBE, () -> x.would(0, no, 4));
        }
    }

    private static final String SHAKY = "slip 30;move 0 up 1 down 1 stirs 0 takes 2;move 1 up 2 down 1 stirs 0 takes 3;"
        + "move 4 up 0 down 1 stirs 0 takes 1;move 5 up 1 down 0 stirs 0 takes 1";

    private static void trial() {
        Doc.says("TRIAL of N MOVES by draws (0 to 40; nothing stays): both DEPTHS together; MINUTE then.", 37);
        for (int n : new int[] {0, 1, 2, 39, 40}) {
            WaistSand x = Check.told("legs 5 6;tide 60;" + SHAKY);
            x.seed(-77);
            int depths = x.trial(n, false);
            int minute = x.trial(n, true);
            due("nothing stays", List.of(5, 6, 0, 0, 0), () -> counts(x, 0, 1, 7, 17, 18));
            due("nor the draws", -77, () -> x.seed(-77));
            if (n > 0) {
                x.moves(n);
            }
            due("DEPTHS of " + n + " as the act has them", x.count(0) + x.count(1), () -> depths);
            due("MINUTE of " + n + " as the act has it", x.count(7), () -> minute);
        }
        due("of none", 11, () -> Check.told("legs 5 6;" + SHAKY).trial(0, false));
        due("till DROWNED", 3, () -> Check.told("legs 5 5;tide 3").trial(40, true));
        due("OUT", List.of(0, 0), () -> List.of(new WaistSand().trial(40, false), new WaistSand().trial(40, true)));
        Doc.says("TRIAL: DEPTHS together (minute false), or MINUTE. IllegalArgumentException: N is none.", 37);
        for (int n : new int[] {-1, 41, LEAST, MOST}) {
            due("N " + n, IAE, () -> Check.told("legs 5 6;" + SHAKY).trial(n, false));
            due("N " + n, IAE, () -> Check.told("legs 5 6;" + SHAKY).trial(n, true));
            due("N " + n + " OUT", IAE, () -> new WaistSand().trial(n, true));
        }
    }

    private static int among(int[] depths, int from, int to, boolean most) {
        int found = depths[from];
        for (int seed = from; seed <= to; seed++) {
            found = most ? Math.max(found, depths[seed]) : Math.min(found, depths[seed]);
        }
        return found;
    }

    private static void spanOf(String beach, int n, boolean[] told) {
        WaistSand x = Check.told(beach);
        List<Integer> before = counts(x, 0, 1, 7, 17, 18);
        int[] depths = new int[8];
        for (int seed = 0; seed < 8; seed++) {
            x.seed(seed);
            depths[seed] = x.trial(n, false);
        }
        for (int most = 0; most < 2; most++) {
            boolean m = most == 1;
            int want = among(depths, 1, 6, m);
            due(n + " MOVES, most " + m, want, () -> x.span(n, m));
            told[4 * most] |= want != among(depths, 2, 6, m);
            told[4 * most + 1] |= want != among(depths, 1, 5, m);
            told[4 * most + 2] |= want != among(depths, 0, 6, m);
            told[4 * most + 3] |= want != among(depths, 1, 7, m);
        }
        due("nothing stays", before, () -> counts(x, 0, 1, 7, 17, 18));
        due("nor a SEED", 7, () -> x.seed(7));
    }

    private static void span() {
        Doc.says("SPAN: the least and the greatest DEPTHS together from SEED 1, 2, .. 6.", 38);
        boolean[] told = new boolean[8];
        for (int n = 0; n <= 40; n++) {
            spanOf("legs 5 6;" + SHAKY, n, told);
            spanOf("legs 6 3;slip 43;move 0 up 2 down 0 stirs 0 takes 1;move 1 up 1 down 2 stirs 0 takes 1;"
                + "move 2 up 3 down 1 stirs 0 takes 1;move 4 up 1 down 2 stirs 0 takes 1;move 6 up 0 down 1 stirs 0 takes 1", n, told);
        }
        for (int i = 0; i < 8; i++) {
            int at = i;
            due("the first and the last SEED were told from those beside " + at, true, () -> told[at]);
        }
        Doc.says("SPAN: the least (most false), or the greatest. IllegalArgumentException: N is none.", 38);
        for (int n : new int[] {-1, 41, LEAST, MOST}) {
            due("N " + n, IAE, () -> Check.told("legs 5 6;" + SHAKY).span(n, false));
            due("N " + n, IAE, () -> new WaistSand().span(n, true));
        }
        due("N 0", List.of(11, 11), () -> List.of(Check.told("legs 5 6;" + SHAKY).span(0, false), Check.told("legs 5 6;" + SHAKY).span(0, true)));
    }

    private static void led() {
        Doc.says("LED: how many rows of THE LOG are of a LEG (of none: 2); the MOVE of the latest such row (none).", 39);
        WaistSand x = Check.told("legs 9 9");
        for (int leg = 0; leg < 3; leg++) {
            int l = leg;
            due("no rows of " + l, List.of(0, -1), () -> List.of(x.led(l, false), x.led(l, true)));
        }
        x.moved(4, 0);
        due("one of LEG 0", List.of(1, 4, 0, -1, 0, -1), () -> ledAll(x));
        x.moved(0, 1);
        x.moved(3, 1);
        due("two of LEG 1", List.of(1, 4, 2, 3, 0, -1), () -> ledAll(x));
        x.moved(6, 1);
        due("one of none", List.of(1, 4, 2, 3, 1, 6), () -> ledAll(x));
        x.pull(1);
        due("a PULL is of none", List.of(1, 4, 2, 3, 2, 7), () -> ledAll(x));
        x.moved(5, 0);
        due("three of none", List.of(1, 4, 2, 3, 3, 5), () -> ledAll(x));
        x.moved(0, 0);
        due("the latest of LEG 0", List.of(2, 0, 2, 3, 3, 5), () -> ledAll(x));
        for (int i = 0; i < 53; i++) {
            x.moved(1, 1);
        }
        due("60 rows", List.of(2, 0, 55, 1, 3, 5), () -> ledAll(x));
        x.moved(1, 1);
        due("the oldest is led no more", List.of(1, 0, 56, 1, 3, 5), () -> ledAll(x));
        for (int i = 0; i < 6; i++) {
            x.moved(1, 1);
        }
        due("nor those behind it", List.of(0, -1, 60, 1, 0, -1), () -> ledAll(x));
        Doc.says("IndexOutOfBoundsException: another LEG.", 39);
        for (int leg : new int[] {-1, 3, LEAST, MOST}) {
            due("LEG " + leg, IOOBE, () -> x.led(leg, false));
            due("LEG " + leg, IOOBE, () -> x.led(leg, true));
        }
        Doc.says("LED of a LEG (0, 1; 2 of none): how many rows (move false), or the MOVE; NONE.", 39);
        due("none", -1, () -> new WaistSand().led(2, true));
        due("no rows", 0, () -> new WaistSand().led(2, false));
    }

    private static List<Integer> ledAll(WaistSand x) {
        return List.of(x.led(0, false), x.led(0, true), x.led(1, false), x.led(1, true), x.led(2, false), x.led(2, true));
    }

    private static List<Integer> row(WaistSand x, int ago) {
        return List.of(x.log(ago, 0), x.log(ago, 1), x.log(ago, 2), x.log(ago, 3), x.log(ago, 4));
    }

    private static void log() {
        Doc.says("MINUTE ahead of it, the MOVE (7: PULLED), the LEG (2: none), both DEPTHS then.", 40);
        WaistSand x = Check.told("legs 9 7;slip 100;move 1 up 3 down 1 stirs 0 takes 30");
        x.talk();
        x.moved(1, 0);
        due("a MOVE of LEG 0, with its SLIP", List.of(1, 1, 0, 7, 9), () -> row(x, 0));
        x.moved(1, 1);
        due("a MOVE of LEG 1", List.of(31, 1, 1, 9, 7), () -> row(x, 0));
        x.moved(6, 1);
        due("a MOVE of none", List.of(61, 6, 2, 9, 8), () -> row(x, 0));
        x.pull(20);
        due("a PULL, OUT by it", List.of(62, 7, 2, 0, 0), () -> row(x, 0));
        due("the first one", List.of(1, 1, 0, 7, 9), () -> row(x, 3));
        Doc.says("THE LOG so many ago (0 the latest) what 0 MINUTE, 1 the MOVE, 2 the LEG, 3, 4 both DEPTHS; NONE without.", 40);
        for (int ago : new int[] {4, 5, 59, 60, -1, LEAST, MOST}) {
            due("ago " + ago, List.of(-1, -1, -1, -1, -1), () -> row(x, ago));
        }
        due("no row at all", List.of(-1, -1, -1, -1, -1), () -> row(new WaistSand(), 0));
        Doc.says("NoSuchElementException: another what.", 40);
        for (int what : new int[] {-1, 5, LEAST, MOST}) {
            due("what " + what, NSEE, () -> x.log(0, what));
            due("what " + what + " without a row", NSEE, () -> x.log(99, what));
        }
        Doc.says("THE LOG: the latest 60 MOVES and PULLS:", 40, 45);
        WaistSand y = Check.told("legs 9 9");
        for (int i = 0; i < 59; i++) {
            y.moved(i == 0 ? 2 : i == 1 ? 3 : 1, 0);
        }
        due("59 rows", List.of(59, 2, -1), () -> List.of(y.count(17), y.log(58, 1), y.log(59, 1)));
        y.pull(1);
        due("60 rows", List.of(60, 2, -1), () -> List.of(y.count(17), y.log(59, 1), y.log(60, 1)));
        y.pull(1);
        due("61st: the first is gone", List.of(60, 3, -1), () -> List.of(y.count(17), y.log(59, 1), y.log(60, 1)));
        due("the latest", List.of(61, 7), () -> List.of(y.log(0, 0), y.log(0, 1)));
        y.undo();
        due("undone the first is back", List.of(60, 2, 59), () -> List.of(y.count(17), y.log(59, 1), y.log(0, 0)));
        y.moves(60);
        due("60 new ones", List.of(60, 61), () -> List.of(y.count(17), y.log(59, 0)));
    }

    private static void undo() {
        Doc.says("UNDONE: the latest ACT not undone yet (12 are remembered; MOVES of one call are one):", 42, 45);
        for (int acts = 11; acts <= 14; acts++) {
            WaistSand x = Check.told("legs 9 9");
            for (int i = 0; i < acts; i++) {
                x.talk();
            }
            int a = acts;
            int most = Math.min(12, a);
            due(a + " acts", most, () -> x.count(18));
            for (int i = 1; i <= most; i++) {
                int n = i;
                due("undone " + n, true, x::undo);
                due("MINUTE, acts left", List.of(a - n, most - n), () -> counts(x, 7, 18));
            }
            due("no more", false, x::undo);
            due("nothing happens", List.of(a - most, 0), () -> counts(x, 7, 18));
        }
        WaistSand x = Check.told("legs 9 9");
        x.talk();
        x.moves(60);
        due("two acts", 2, () -> x.count(18));
        due("60 MOVES at once", true, x::undo);
        due("all of them", List.of(1, 0, 1), () -> counts(x, 7, 17, 18));
        x.pour();
        x.undo();
        x.undo();
        due("an act that was undone is not undone again", List.of(0, 0, 0), () -> counts(x, 4, 5, 7));
        Doc.says("UNDONE: whether there was one.", 42);
        due("none", false, x::undo);
        due("none of a new one", false, () -> new WaistSand().undo());
        Doc.says("all is as ahead of it (but for the TAPE, fault(), THE IMAGE).", 42);
        WaistSand all = Check.told("legs 9 9;boards 1;person 1 at 0 0");
        all.moved(6, 0);
        List<Object> before = scene(all);
        all.seed(5);
        all.seed(1103527590);
        acts(all, before);
        all.talk();
        Check.beach(all, "x");
        Check.tape(all, "thin 5");
        all.image();
        all.undo();
        due("the TAPE stays", true, () -> all.end(6));
        due("PERSON 0: WEIGHT, CELL", List.of(1, 0), () -> List.of(all.person(0, 0), all.person(0, 1)));
        due("fault() stays", 0, all::fault);
        due("it is of no talk", 0, () -> all.count(4));
        all.back();
        due("THE IMAGE stays", 1, () -> all.count(4));
    }

    /** Each kind of act, done and undone: all is as ahead of it, the SEED too. */
    private static void acts(WaistSand x, List<Object> before) {
        Check.Call[] acts = {() -> x.moved(0, 0), () -> x.moved(5, 0), () -> x.pull(20), x::talk, x::pour, () -> x.walk(0, 1),
            () -> x.board(0), () -> x.moves(3)};
        for (int i = 0; i < acts.length; i++) {
            Check.Call act = acts[i];
            due("act " + i + " is done", true, () -> act.answer() instanceof Integer);
            due("act " + i + " changes something", false, () -> scene(x).equals(before));
            x.seed(9);
            due("act " + i + " is undone", true, x::undo);
            due("act " + i + ": all is as ahead of it", before, () -> scene(x));
        }
    }

    /** What acts change, of one who stands at the CELL 0 with boards; the SEED is looked at and put back. */
    private static List<Object> scene(WaistSand x) {
        List<Object> all = new ArrayList<>();
        for (int what = 0; what <= 18; what++) {
            all.add(x.count(what));
        }
        all.add(row(x, 0));
        all.add(List.of(x.cell(0, 0), x.cell(0, 3), x.cell(1, 3)));
        int seed = x.seed(0);
        x.seed(seed);
        all.add(seed);
        return all;
    }

    private static void undoForgets() {
        Doc.says("A text, going back: none are remembered.", 4, 5, 42, 44);
        WaistSand x = Check.told("legs 9 9");
        x.talk();
        due("a text", 2, () -> Check.beach(x, "thin 1"));
        due("none", List.of(0, false), () -> List.of(x.count(18), x.undo()));
        x.talk();
        due("an empty text", 3, () -> Check.beach(x, ""));
        due("none", List.of(0, false), () -> List.of(x.count(18), x.undo()));
        x.talk();
        due("a law", 1, () -> Check.law(x, "up 1"));
        due("none", List.of(0, false), () -> List.of(x.count(18), x.undo()));
        x.talk();
        due("an empty law", 0, () -> Check.law(x, ""));
        due("none", List.of(0, false), () -> List.of(x.count(18), x.undo()));
        x.image();
        x.talk();
        due("THE IMAGE forgets none", 1, () -> x.count(18));
        due("going back", true, x::back);
        due("none", List.of(0, false), () -> List.of(x.count(18), x.undo()));
        x.talk();
        x.image();
        due("an act ahead of THE IMAGE", List.of(true, 0, false), () -> List.of(x.back(), x.count(18), x.undo()));
        x.talk();
        due("a wrong text forgets none", IAE, () -> Check.beach(x, "thin 6"));
        due("a wrong law forgets none", IAE, () -> Check.law(x, "up 10"));
        due("one", List.of(1, true), () -> List.of(x.count(18), x.undo()));
        WaistSand never = Check.told("legs 9 9");
        never.talk();
        due("no image to go back to", List.of(false, 1, true), () -> List.of(never.back(), never.count(18), never.undo()));
    }

    private static void image() {
        Doc.says("THE IMAGE (one) of all may be kept, and gone back to (but for the TAPE, fault() and THE IMAGE itself).", 43, 44);
        WaistSand x = Check.told("legs 9 8;thin 1;calm 2;water 3;tide 500;slip 4;boards 5;hole 1 1;person 6 at 0 0;heap 0 0;"
            + "move 1 up 1 down 2 stirs 3 takes 4", "up 1");
        x.pull(9);
        x.moved(6, 0);
        List<Object> before = scene(x);
        before.set(18, 0);
        x.image();
        due("all is told anew", 2, () -> Check.beach(x, "legs 1 1;thin 0;calm 0;water 0;tide 9;slip 0;boards 9;hole 7 7;"
            + "person 1 at 1 0;heap 1 0;shine 0 0;bears 0 0 1;move 1 up 0 down 0 stirs 0 takes 1"));
        due("a law", 3, () -> Check.law(x, "up 1;up 2;up 3"));
        x.moves(9);
        x.walk(0, 1);
        x.board(3);
        x.seed(99);
        due("wrong", IAE, () -> Check.beach(x, "thin 1 1"));
        Check.tape(x, "thin 2");
        due("gone back", true, x::back);
        due("all is as it was", before, () -> scene(x));
        due("HEAP, SHINE", List.of(1, 0, 0), () -> List.of(x.cell(0, 1), x.cell(1, 1), x.cell(0, 2)));
        due("PERSON 0: WEIGHT, CELL", List.of(6, 0), () -> List.of(x.person(0, 0), x.person(0, 1)));
        due("MOVE 1", List.of(1, 2, 3, 4), () -> List.of(x.move(1, 0), x.move(1, 1), x.move(1, 2), x.move(1, 3)));
        due("THE LAW: 8 less 2, less 1, less 1", 4, () -> x.would(2, 1, 1));
        due("fault() stays", 7, x::fault);
        due("the TAPE stays", true, () -> x.end(6));
        due("and can be read", 2, x::beach);
        due("THE IMAGE stays", true, x::back);
        due("once more as it was", before, () -> scene(x));
        Doc.says("THE IMAGE is kept.", 43);
        x.talk();
        x.image();
        x.talk();
        x.talk();
        due("the later one alone", List.of(true, 3), () -> List.of(x.back(), x.count(4)));
        due("the later one alone", List.of(true, 3), () -> List.of(x.back(), x.count(4)));
        Doc.says("One goes back to THE IMAGE: true; false, and nothing happens, if none was kept.", 44);
        WaistSand none = Check.told("legs 9 9");
        none.talk();
        due("none was kept", false, none::back);
        due("nothing happens", List.of(9, 9, 1, 1, 1), () -> counts(none, 0, 1, 4, 7, 18));
        WaistSand fresh = new WaistSand();
        fresh.image();
        Check.beach(fresh, "legs 1 1");
        due("of a new one", List.of(true, 0, 0), () -> List.of(fresh.back(), fresh.count(0), fresh.count(15)));
    }

    private static void count() {
        Doc.says("NONE for another what.", 45);
        WaistSand x = Check.told("legs 1 2;thin 3;calm 4;water 5;tide 666;slip 7;boards 8;hole 1 1;person 1 at 0 0;person 1 at 0 0",
            "up 0;up 0;up 0");
        x.moved(6, 0);
        for (int what : new int[] {-1, 19, 20, LEAST, MOST}) {
            due("what " + what, -1, () -> x.count(what));
        }
        Doc.says("0, 1 DEPTHS of both LEGS, 2 THIN, 3 1 if LYING, 4 CALM, 5 WATER, 6 HARM, 7 MINUTE, 8 TIDE, 9 1 if OUT, 10 1 if DROWNED,"
            + " 11 SLIP, 12 THE HOLE, 13 PEOPLE, 14 BOARDS, 15 texts of THE BEACH, 16 LINES of THE LAW (NONE without one),"
            + " 17 rows of THE LOG, 18 acts that can be UNDONE.", 45);
        due("0 to 18", List.of(1, 2, 3, 1, 4, 5, 0, 1, 666, 0, 0, 7, 9, 2, 8, 1, 3, 1, 1), () -> counts(x, 0, 1, 2, 3, 4, 5, 6, 7, 8,
            9, 10, 11, 12, 13, 14, 15, 16, 17, 18));
    }

    private static void throwing() {
        Doc.says("Of several exceptions the one told first is thrown; a call that throws changes nothing but the TAPE, where it is used up.",
            4, 5, 7, 8, 9, 10, 11, 12, 13, 14, 15, 16, 17, 21, 26, 27, 28, 29, 30, 31, 32, 34, 35, 37, 38, 39, 40);
        WaistSand x = Check.told("legs 9 9;tide 1;person 1 at 0 0");
        x.talk();
        List<Object> before = scene(x);
        refuses(x, before, NSEE, () -> x.move(0, 5), () -> x.cell(0, 4), () -> x.person(0, 4), () -> x.would(0, 0, 4),
            () -> x.worth(3), () -> x.log(0, 5));
        refuses(x, before, IOOBE, () -> x.move(7, 5), () -> x.cell(64, 4), () -> x.person(1, 4), () -> x.moved(7, 0),
            () -> x.moved(0, 2), () -> x.walk(1, 0), () -> x.walk(0, 64), () -> x.board(64), () -> x.would(7, 0, 4),
            () -> x.way(1, 0, true), () -> x.way(0, 64, true), () -> x.reach(1, true), () -> x.holes(64, 0), () -> x.led(3, true));
        Doc.says("IllegalArgumentException: a number is none, or two are one. IllegalStateException: it cannot be.",
            11, 12, 13, 14, 15, 16, 26, 27, 28, 31, 32, 34, 35, 37, 38);
        refuses(x, before, IAE, () -> x.pull(0), () -> x.moves(0), () -> x.run(0, 1), () -> x.run(1, 0), () -> x.better(0, 1),
            () -> x.better(1, 0), () -> x.force(0, true), () -> x.edge(8, 1), () -> x.edge(0, 0), () -> x.signs(0, true),
            () -> x.holes(0, 0), () -> x.rope(0), () -> x.trial(41, true), () -> x.span(41, true));
        refuses(x, before, ISE, () -> x.moved(0, 0), () -> x.pull(1), x::talk, x::pour, () -> x.walk(0, 0), () -> x.board(0));
        Doc.says("a call that throws changes nothing but the TAPE, where it is used up.", 10, 11);
        Check.tape(x, "thin 1");
        Check.answer(() -> x.pull(0));
        Check.answer(() -> x.moved(0, 0));
        due("the TAPE stays, where it is not used", 2, x::beach);
    }

    private static void refuses(WaistSand x, List<Object> before, String thrown, Check.Call... calls) {
        for (int i = 0; i < calls.length; i++) {
            due(thrown + " " + i, thrown, calls[i]);
        }
        due("nothing has changed by " + thrown, before, () -> scene(x));
    }

    private static void manyCalls() {
        Doc.says("An object is used for at most 512 calls after it has been made;", 1);
        WaistSand x = new WaistSand();
        for (int i = 1; i <= 511; i++) {
            x.talk();
        }
        due("the 512th call", 511, () -> x.count(7));
        WaistSand searched = new WaistSand();
        Check.beach(searched, "legs 9 9;move 1 up 1 down 0 stirs 1 takes 30");
        for (int i = 4; i <= 510; i++) {
            searched.stuck();
        }
        due("searches all the way", List.of(18 * 30, 0), () -> List.of(searched.soonest(127), searched.stuck()));
    }
}
