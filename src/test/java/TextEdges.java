import java.util.List;
import java.util.function.ToIntFunction;

/** Edges of a new object, of the TAPE and of both kinds of texts: promises 1 to 6. */
final class TextEdges {
    private static final String IAE = "IllegalArgumentException";
    private static final String UOE = "UnsupportedOperationException";
    private static final int LEAST = Integer.MIN_VALUE;
    private static final int MOST = Integer.MAX_VALUE;

    private TextEdges() {
    }

    static void look() {
        newObject();
        feed();
        end();
        bodyNumbers();
        moveNumbers();
        shoreNumbers();
        digits();
        texts();
        linesOfBeach();
        people();
        linesOfLaw();
        lawNumbers();
        lawFacts();
        conditions();
        words();
        blanks();
        deep();
        wrongBytes();
        textsLength();
        wrongTexts();
        usedUp();
        fault();
    }

    private static void due(String what, Object want, Check.Call call) {
        Doc.due(what, want, call);
    }

    private static void newObject() {
        WaistSand x = new WaistSand();
        Doc.says("One who stands on firm sand.", 1);
        due("OUT", 1, () -> x.count(9));
        due("THIN", 0, () -> x.count(2));
        Doc.says("All else is 0, not LYING at first.", 1, 45);
        for (int what : new int[] {0, 1, 2, 3, 4, 5, 6, 7, 10, 13, 15, 17, 18}) {
            due("count(" + what + ")", 0, () -> x.count(what));
        }
        Doc.says("(0, 0, 0, 1 at first)", 1, 7);
        for (int move = 0; move < 7; move++) {
            int m = move;
            due("MOVE " + m, List.of(0, 0, 0, 1), () -> List.of(x.move(m, 0), x.move(m, 1), x.move(m, 2), x.move(m, 3)));
        }
        Doc.says("(5 at first)", 1, 8);
        for (int cell = 0; cell < 64; cell++) {
            int c = cell;
            due("CELL " + c, List.of(5, 0, 0, 0), () -> List.of(x.cell(c, 0), x.cell(c, 1), x.cell(c, 2), x.cell(c, 3)));
        }
        Doc.says("(27 at first)", 1);
        due("THE HOLE", 27, () -> x.count(12));
        Doc.says("(999 at first)", 1);
        due("TIDE", 999, () -> x.count(8));
        Doc.says("(SEED 1 at first)", 1, 41);
        due("SEED", 1, () -> x.seed(1));
        Doc.says("BOARDS 0 to 9 (0 at first)", 1);
        due("BOARDS", 0, () -> x.count(14));
        Doc.says("SLIP 0 to 100 (0 at first)", 1);
        due("SLIP", 0, () -> x.count(11));
    }

    private static void feed() {
        Doc.says("Twenty bytes come behind the TAPE, of each number the highest first: how many it has;", 2);
        WaistSand x = new WaistSand();
        int[] text = Check.fed("thin 3;calm 4;tide 7".getBytes(), 0);
        due("20", 20, () -> x.feed(text[0], text[1], text[2], text[3], text[4]));
        due("read", 1, x::beach);
        due("in their order", List.of(3, 4, 7), () -> List.of(x.count(2), x.count(4), x.count(8)));
        for (int place = 0; place < 20; place++) {
            byte[] blanks = " ".repeat(20).getBytes();
            blanks[place] = (byte) 255;
            int[] fed = Check.fed(blanks, 0);
            x.feed(fed[0], fed[1], fed[2], fed[3], fed[4]);
            Check.answer(x::beach);
            due("byte " + place, place, x::fault);
        }
        Doc.says("NONE, and none come, if it would have more than 400.", 2);
        WaistSand full = new WaistSand();
        for (int i = 1; i < 20; i++) {
            feedBlanks(full);
        }
        due("380 and 20", 400, () -> feedBlanks(full));
        due("400 and 20", -1, () -> feedBlanks(full));
        due("none came", List.of(false, true), () -> List.of(full.end(401), full.end(400)));
        full.end(381);
        due("381 and 20", -1, () -> full.feed(-1, -1, -1, -1, -1));
        due("none came", List.of(false, true), () -> List.of(full.end(382), full.end(381)));
        due("its bytes are as they were", 1, full::beach);
        due("it is empty again", 20, () -> feedBlanks(full));
        for (int i = 1; i < 19; i++) {
            feedBlanks(full);
        }
        full.end(379);
        due("379 and 20", 399, () -> feedBlanks(full));
        due("399 and 20", -1, () -> feedBlanks(full));
    }

    private static int feedBlanks(WaistSand x) {
        return x.feed(0x20202020, 0x20202020, 0x20202020, 0x20202020, 0x20202020);
    }

    private static void end() {
        Doc.says("The TAPE has its first n bytes alone: true;", 3);
        WaistSand x = new WaistSand();
        feedBlanks(x);
        due("all 20", true, () -> x.end(20));
        due("19", true, () -> x.end(19));
        due("then 20 more", 39, () -> feedBlanks(x));
        due("none of it", true, () -> x.end(0));
        due("then 20", 20, () -> feedBlanks(x));
        Check.tape(x, "");
        due("an empty one", true, () -> x.end(0));
        Check.tape(x, "thin 12");
        x.end(6);
        due("the first ones", 1, x::beach);
        due("thin 1", 1, () -> x.count(2));
        Check.tape(x, "thin 2;thin 34");
        x.end(6);
        due("what stood behind them is not read: a sign", 2, x::beach);
        Check.tape(x, "thin 3 4");
        x.end(7);
        due("what stood behind them is not read: a number", 3, x::beach);
        Check.tape(x, "thin 4if");
        x.end(6);
        due("what stood behind them is not read: a word", 4, x::beach);
        due("thin 4", 4, () -> x.count(2));
        Doc.says("false, and nothing happens, if it has fewer, or n is below 0.", 3);
        feedBlanks(x);
        for (int n : new int[] {21, 400, 401, MOST, -1, LEAST}) {
            due("end(" + n + ")", false, () -> x.end(n));
        }
        due("all are there", 40, () -> feedBlanks(x));
        due("none is more", List.of(false, true), () -> List.of(x.end(41), x.end(40)));
        x.end(0);
        due("1 of none", false, () -> x.end(1));
    }

    /** A number in a LINE, put for #: on its bounds and inside it is read, outside it is the first wrong byte. */
    private static void bounds(String line, int least, int most, ToIntFunction<WaistSand> seen) {
        for (int n : new int[] {least, least + 1, most - 1, most}) {
            WaistSand x = new WaistSand();
            due(line + " " + n, 1, () -> Check.beach(x, line.replace("#", "" + n)));
            due(line + " " + n + " is told", n, () -> seen.applyAsInt(x));
        }
        for (int n : new int[] {least - 1, most + 1}) {
            if (n >= 0) {
                WaistSand x = new WaistSand();
                String text = line.replace("#", "" + n);
                int before = seen.applyAsInt(x);
                due(text, IAE, () -> Check.beach(x, text));
                due(text + ", fault", line.indexOf('#'), x::fault);
                due(text + ", nothing stays", before, () -> seen.applyAsInt(x));
            }
        }
        WaistSand x = new WaistSand();
        due(line + " below 0", IAE, () -> Check.beach(x, line.replace("#", "-1")));
        due(line + " below 0, fault", line.indexOf('#'), x::fault);
    }

    private static void bodyNumbers() {
        Doc.says("THE BODY: two LEGS (0, 1), each of a DEPTH 0 to 9;", 4);
        bounds("legs # 0", 0, 9, x -> x.count(0));
        bounds("legs 0 #", 0, 9, x -> x.count(1));
        Doc.says("THIN 0 to 5: the sand about it;", 4);
        bounds("thin #", 0, 5, x -> x.count(2));
        Doc.says("CALM 0 to 9; WATER 0 to 9;", 4);
        bounds("calm #", 0, 9, x -> x.count(4));
        bounds("water #", 0, 9, x -> x.count(5));
        Doc.says("TIDE: a MINUTE 0 to 999", 4);
        bounds("tide #", 0, 999, x -> x.count(8));
        Doc.says("SLIP 0 to 100 (0 at first)", 4);
        bounds("slip #", 0, 100, x -> x.count(11));
        Doc.says("BOARDS 0 to 9 (0 at first)", 4);
        bounds("boards #", 0, 9, x -> x.count(14));
    }

    private static void moveNumbers() {
        Doc.says("of each are told UP 0 to 9, DOWN 0 to 9, STIRS 0 to 5, TAKES 1 to 30 (0, 0, 0, 1 at first).", 4, 7);
        bounds("move 3 up # down 1 stirs 1 takes 2", 0, 9, x -> x.move(3, 0));
        bounds("move 3 up 1 down # stirs 1 takes 2", 0, 9, x -> x.move(3, 1));
        bounds("move 3 up 1 down 1 stirs # takes 2", 0, 5, x -> x.move(3, 2));
        bounds("move 3 up 1 down 1 stirs 1 takes #", 1, 30, x -> x.move(3, 3));
        Doc.says("(N of move: its number first;", 4);
        bounds("move # up 7 down 0 stirs 0 takes 1", 0, 6, x -> {
            int told = 0;
            for (int move = 0; move < 7; move++) {
                told = x.move(move, 0) == 7 ? move : told;
            }
            return told;
        });
    }

    private static int peopleOrCell(WaistSand x) {
        return x.count(13) == 0 ? -1 : x.person(0, 1);
    }

    private static int first(WaistSand x, int what, int of) {
        for (int cell = 0; cell < 64; cell++) {
            if (x.cell(cell, what) == of) {
                return cell;
            }
        }
        return -1;
    }

    private static void shoreNumbers() {
        Doc.says("BEARS 0 to 9 each", 4, 8);
        bounds("bears 7 7 #", 0, 9, x -> x.cell(63, 0));
        Doc.says("WEIGHT 1 to 9 and a CELL.", 4, 9);
        bounds("person # at 0 0", 1, 9, x -> x.count(13) == 0 ? 0 : x.person(0, 0));
        Doc.says("THE SHORE: 8 by 8 CELLS, numbered 8 times Y and X (0 to 63):", 4, 8);
        due("X 7 Y 0", 7, () -> first(Check.told("bears 7 0 9"), 0, 9));
        due("X 0 Y 7", 56, () -> first(Check.told("bears 0 7 9"), 0, 9));
        due("X 7 Y 7", 63, () -> first(Check.told("heap 7 7"), 1, 1));
        due("X 0 Y 0", 0, () -> first(Check.told("shine 0 0"), 2, 1));
        Doc.says("of person: WEIGHT; X, Y: 0 to 7.)", 4);
        bounds("bears # 0 9", 0, 7, x -> first(x, 0, 9));
        bounds("bears 0 # 9", 0, 7, x -> first(x, 0, 9) / 8);
        bounds("heap # 0", 0, 7, x -> first(x, 1, 1));
        bounds("heap 0 #", 0, 7, x -> first(x, 1, 1) / 8);
        bounds("shine # 0", 0, 7, x -> first(x, 2, 1));
        bounds("shine 0 #", 0, 7, x -> first(x, 2, 1) / 8);
        bounds("hole # 0", 0, 7, x -> x.count(12));
        bounds("hole 0 #", 0, 7, x -> x.count(12) / 8);
        bounds("person 1 at # 0", 0, 7, x -> peopleOrCell(x));
        bounds("person 1 at 0 #", 0, 7, x -> peopleOrCell(x) / 8);
    }

    private static void wrongBeach(String text, int at) {
        WaistSand x = new WaistSand();
        due("beach '" + text + "'", IAE, () -> Check.beach(x, text));
        due("fault of '" + text + "'", at, x::fault);
    }

    private static void rightBeach(String text) {
        due("beach '" + text + "'", 1, () -> Check.beach(new WaistSand(), text));
    }

    private static void wrongLaw(String text, int at) {
        WaistSand x = new WaistSand();
        due("law '" + text + "'", IAE, () -> Check.law(x, text));
        due("fault of '" + text + "'", at, x::fault);
    }

    private static void rightLaw(String text) {
        due("law '" + text + "'", text.split(";").length, () -> Check.law(new WaistSand(), text));
    }

    private static void digits() {
        Doc.says("Numbers are of 1 to 3 digits.", 4);
        for (String five : new String[] {"5", "05", "005"}) {
            due(five, 5, () -> Check.told("thin " + five).count(2));
        }
        wrongBeach("thin 0005", 5);
        wrongBeach("thin 00005", 5);
        wrongBeach("thin", 4);
        wrongBeach("tide 0999", 5);
        wrongBeach("tide 1000", 5);
        wrongBeach("legs 1 0002", 7);
        wrongBeach("move 0006 up 0 down 0 stirs 0 takes 1", 5);
        rightBeach("move 006 up 009 down 000 stirs 05 takes 030");
    }

    private static void texts() {
        Doc.says("THE BEACH is told in texts (at most 12, one behind another):", 4);
        WaistSand x = new WaistSand();
        for (int i = 1; i <= 12; i++) {
            int n = i;
            due("text " + n, n, () -> Check.beach(x, n == 1 ? "boards 7;calm 1" : "calm " + n % 10));
            due("told ahead", 7, () -> x.count(14));
            due("told now", n % 10, () -> x.count(4));
        }
        due("a 13th one", UOE, () -> Check.beach(x, "calm 9;boards 1"));
        due("nothing of it stays", List.of(2, 7, 12), () -> List.of(x.count(4), x.count(14), x.count(15)));
        due("a law is none of them", 1, () -> Check.law(x, "up 1"));
        Doc.says("UnsupportedOperationException: there are 12.", 4);
        due("an empty 13th one", UOE, () -> Check.beach(x, ""));
        x.talk();
        due("acts stay to be undone", UOE, () -> Check.beach(x, " "));
        due("acts stay to be undone", 1, () -> x.count(18));
        Doc.says("IllegalArgumentException: it is wrong;", 4);
        due("a wrong 13th one", IAE, () -> Check.beach(x, "calm 10"));
        due("its fault", 5, x::fault);
        WaistSand first = new WaistSand();
        due("a wrong first one", IAE, () -> Check.beach(first, "calm 10"));
        due("is not counted", 0, () -> first.count(15));
        due("the next is the first", 1, () -> Check.beach(first, "calm 9"));
        Doc.says("A text that is empty, or blanks alone, has no LINE.", 4, 5);
        WaistSand blank = new WaistSand();
        due("an empty TAPE", 1, blank::beach);
        due("one blank", 2, () -> Check.beach(blank, " "));
        due("400 blanks", 3, () -> Check.beach(blank, " ".repeat(400)));
        due("400 bytes, a LINE at their end", 4, () -> Check.beach(blank, " ".repeat(394) + "thin 1"));
        due("400 bytes, a LINE at their begin", 5, () -> Check.beach(blank, "thin 2" + " ".repeat(394)));
        String law = "up 1 if " + "lying or ".repeat(43) + "1>0  ";
        due("a law of 400 bytes", List.of(400, 1), () -> List.of(law.length(), Check.law(blank, law)));
        due("a law of an empty TAPE", 0, blank::law);
        due("a law of one blank", 0, () -> Check.law(blank, " "));
        due("a law of 400 blanks", 0, () -> Check.law(blank, " ".repeat(400)));
        due("a law without LINES is one", 0, () -> blank.count(16));
        due("no fault", -1, blank::fault);
    }

    private static void linesOfBeach() {
        Doc.says("LINE { ; LINE }, at most 14:", 4);
        for (int lines : new int[] {1, 2, 13, 14}) {
            WaistSand x = new WaistSand();
            due(lines + " LINES", 1, () -> Check.beach(x, "thin 1;".repeat(lines - 1) + "thin 2"));
            due("the last one counts", 2, () -> x.count(2));
        }
        for (String last : new String[] {"move 6 up 9 down 8 stirs 5 takes 30", "person 9 at 7 7", "bears 7 7 9", "legs 9 9"}) {
            rightBeach("thin 1;".repeat(13) + last);
        }
        WaistSand last = Check.told("thin 1;".repeat(13) + "move 6 up 9 down 8 stirs 5 takes 30");
        due("a 14th one of many numbers", List.of(9, 8, 5, 30), () -> List.of(last.move(6, 0), last.move(6, 1), last.move(6, 2), last.move(6, 3)));
        wrongBeach("thin 1;".repeat(14) + "thin 2", 98);
        wrongBeach("thin 1;".repeat(14) + "  boards", 100);
        wrongBeach("thin 1;".repeat(14) + ";", 98);
        wrongBeach("thin 1;".repeat(14), 98);
    }

    private static void people() {
        Doc.says("PEOPLE (at most 6, numbered from 0 on):", 4, 9);
        String one = "person 1 at 0 0";
        String five = (one + ";").repeat(4) + one;
        WaistSand x = Check.told(five);
        due("5", 5, () -> x.count(13));
        due("a 6th and a 7th in one text", IAE, () -> Check.beach(x, "person 2 at 1 1; person 3 at 1 1"));
        due("the word of the 7th", 17, x::fault);
        due("5 as before", 5, () -> x.count(13));
        due("a 6th", 2, () -> Check.beach(x, "person 2 at 1 1"));
        due("6", 6, () -> x.count(13));
        due("the 6th has the number 5", List.of(2, 9), () -> List.of(x.person(5, 0), x.person(5, 1)));
        due("a 7th", IAE, () -> Check.beach(x, "thin 1;person 0 at 9 9"));
        due("its word", 7, x::fault);
        due("texts without one go on", 3, () -> Check.beach(x, "thin 1"));
        wrongBeach((one + ";").repeat(6) + "person", 96);
        rightBeach((one + ";").repeat(5) + one);
        WaistSand image = new WaistSand();
        image.image();
        Check.beach(image, five + ";" + one);
        image.back();
        due("gone back there is room again", 1, () -> Check.beach(image, five + ";" + one));
    }

    private static void linesOfLaw() {
        Doc.says("THE LAW (a text, in place of the one before): LINE { ; LINE }, at most 12:", 5);
        for (int lines : new int[] {1, 2, 11, 12}) {
            WaistSand x = Check.told("legs 9 9");
            due(lines + " LINES", lines, () -> Check.law(x, "up 0;".repeat(lines - 1) + "up 2"));
            due("all count", 7, () -> x.would(0, 0, 0));
            due("told again", lines, () -> Check.law(x, "up 1;".repeat(lines - 1) + "up 0"));
            due("in place of the one before", Math.max(0, 10 - lines), () -> x.would(0, 0, 0));
            due("count", lines, () -> x.count(16));
        }
        WaistSand again = Check.told("legs 9 9", "up 1 if 1<0 or 0<1;up 1 if not lying");
        due("both hold", 7, () -> again.would(1, 0, 0));
        due("told again", 2, () -> Check.law(again, "up 1 if 1<0 and 0<1;up 3 if 0<1"));
        due("by the conditions of the latest", 6, () -> again.would(1, 0, 0));
        due("told again", 1, () -> Check.law(again, "up 2 if 1<0"));
        due("by a condition that does not hold", 9, () -> again.would(1, 0, 0));
        due("told again", 1, () -> Check.law(again, "up 2"));
        due("without a condition", 7, () -> again.would(1, 0, 0));
        for (int i = 0; i < 9; i++) {
            due("a long one, again and again", 1, () -> Check.law(again, "up 3 if " + "lying or ".repeat(43) + "0<1"));
        }
        due("by the long one", 6, () -> again.would(1, 0, 0));
        wrongLaw("up 1;".repeat(12) + "up 1", 60);
        wrongLaw("up 1;".repeat(12) + "   down", 63);
        wrongLaw("up 1;".repeat(12), 60);
        Doc.says("LINES of THE LAW (NONE without one)", 45);
        WaistSand none = new WaistSand();
        due("without one", -1, () -> none.count(16));
        due("wrong", IAE, () -> Check.law(none, "up"));
        due("still without one", -1, () -> none.count(16));
        due("one without LINES", 0, () -> Check.law(none, ""));
        due("it is one", 0, () -> none.count(16));
    }

    private static void lawNumbers() {
        Doc.says("All numbers are of 1 to 3 digits (N 0 to 9).", 5);
        String[] kinds = {"up", "down", "stir", "settle"};
        for (String kind : kinds) {
            for (int n : new int[] {0, 1, 8, 9}) {
                WaistSand x = Check.told("legs 9 0;thin " + (kind.equals("settle") ? 5 : 0), kind + " " + n);
                int up = kind.equals("up") ? n : 0;
                int down = kind.equals("down") ? n : 0;
                int thin = kind.equals("stir") ? Math.min(5, n) : kind.equals("settle") ? Math.max(0, 5 - n) : 0;
                due(kind + " " + n, List.of(9 - up, down, thin), () -> List.of(x.would(1, 0, 0), x.would(1, 0, 1), x.would(1, 0, 2)));
            }
            wrongLaw(kind + " 10", kind.length() + 1);
            wrongLaw(kind + " 0009", kind.length() + 1);
            wrongLaw(kind + " -1", kind.length() + 1);
            wrongLaw(kind, kind.length());
            rightLaw(kind + " 009");
        }
        rightLaw("up 1 if 0<999");
        rightLaw("up 1 if 000<099+999");
        wrongLaw("up 1 if 1000>0", 8);
        wrongLaw("up 1 if 0000<1", 8);
        wrongLaw("up 1 if 0<1000", 10);
        wrongLaw("up 1 if 0<0000", 10);
        wrongLaw("up 1 if 0<1+1000", 12);
    }

    private static int depth(String beach, String law, int move, int leg) {
        WaistSand x = Check.told(beach, law);
        return x.would(move, leg, 0);
    }

    /** Of LEG 0 at 4, LEG 1 at 6: a fact is just n, if it is above n less 1 and below n and 1. */
    private static void fact(String name, int n, int move, int leg) {
        WaistSand x = Check.told("legs 4 6;thin 3;calm 7;water 8", "stir 1 if " + name + ">" + (n - 1) + " and " + name + "<" + (n + 1));
        due(name + " of MOVE " + move + " LEG " + leg + " is " + n, 4, () -> x.would(move, leg, 2));
        WaistSand above = Check.told("legs 4 6;thin 3;calm 7;water 8", "stir 1 if " + name + ">" + n);
        due(name + " of MOVE " + move + " LEG " + leg + " is not above " + n, 3, () -> above.would(move, leg, 2));
        WaistSand below = Check.told("legs 4 6;thin 3;calm 7;water 8", "stir 1 if " + name + "<" + n);
        due(name + " of MOVE " + move + " LEG " + leg + " is not below " + n, 3, () -> below.would(move, leg, 2));
    }

    private static void lawFacts() {
        Doc.says("Of a MOVE of a LEG: leg, other: the DEPTH of that one, of the other one;", 5, 10, 17);
        for (int move : new int[] {1, 4}) {
            fact("leg", 4, move, 0);
            fact("leg", 6, move, 1);
            fact("other", 6, move, 0);
            fact("other", 4, move, 1);
            fact("move", move, move, 0);
        }
        Doc.says("of a MOVE of none: the DEPTHS of LEG 0, LEG 1;", 5, 10, 17);
        for (int move = 5; move <= 6; move++) {
            for (int leg = 0; leg < 2; leg++) {
                fact("leg", 4, move, leg);
                fact("other", 6, move, leg);
                fact("move", move, move, leg);
            }
        }
        Doc.says("thin, lying as they are ahead of it.", 5, 10, 17);
        fact("thin", 3, 1, 0);
        fact("calm", 7, 1, 0);
        fact("water", 8, 1, 0);
        WaistSand acts = Check.told("legs 9 9;calm 7;water 8", "up 1 if calm>6 and calm<8;up 2 if water>7 and water<9");
        due("calm and water, in an act", 15, () -> acts.moved(1, 0));
        acts.talk();
        due("water alone holds on", 13, () -> acts.moved(1, 1));
        acts.undo();
        acts.undo();
        acts.pour();
        due("calm alone holds on", 14, () -> acts.moved(1, 1));
        WaistSand x = Check.told("legs 9 9;thin 3;move 1 up 0 down 0 stirs 2 takes 1", "up 1 if thin>3;down 1 if lying");
        due("THIN behind it is not looked at", 9, () -> x.would(1, 0, 0));
        WaistSand lies = Check.told("legs 5 5", "up 1 if lying");
        due("one does not lie yet", 10, () -> lies.moved(6, 0));
        due("one lies still, ahead of a jerk", 9, () -> lies.moved(0, 0));
        due("no more behind it", 9, () -> lies.moved(0, 0));
    }

    private static void holds(String condition, boolean want) {
        due("'" + condition + "'", want ? 8 : 9, () -> depth("legs 9 9;thin 3", "up 1 if " + condition, 1, 0));
    }

    private static void holdsLying(String condition, int lies, boolean want) {
        WaistSand x = Check.told("legs 9 9");
        x.moved(lies == 1 ? 6 : 5, 0);
        Check.law(x, "up 1 if " + condition);
        due("'" + condition + "' LYING " + lies, want ? 8 : 9, () -> x.would(1, 0, 0));
    }

    private static void conditions() {
        Doc.says("ATOM: not ATOM | ( C ) | lying | SUM < SUM | SUM > SUM.", 5);
        holds("2<3", true);
        holds("3<3", false);
        holds("4<3", false);
        holds("3>2", true);
        holds("3>3", false);
        holds("3>4", false);
        holds("thin<thin+1", true);
        holds("thin+thin>6", false);
        holds("thin+thin>5", true);
        holds("999+999>999+998+0", true);
        holds("not lying", true);
        holds("not not lying", false);
        holds("lying", false);
        holds("(lying)", false);
        for (int lies = 0; lies < 2; lies++) {
            holdsLying("lying", lies, lies == 1);
            holdsLying("not lying", lies, lies == 0);
            holdsLying("0<1 and lying", lies, lies == 1);
            holdsLying("lying and 0<1", lies, lies == 1);
            holdsLying("1<0 or lying", lies, lies == 1);
            holdsLying("lying or 1<0", lies, lies == 1);
            holdsLying("0<1 and (1<0 or not lying)", lies, lies == 0);
            holdsLying("1<0 or (0<1 and (1<0 or (0<1 and (1<0 or lying))))", lies, lies == 1);
        }
        Doc.says("C: ALL { or ALL }; ALL: ATOM { and ATOM };", 5);
        holds("0<1 or 0<1 and 1<0", true);
        holds("(0<1 or 0<1) and 1<0", false);
        holds("1<0 and 0<1 or 0<1", true);
        holds("1<0 and (0<1 or 0<1)", false);
        holds("not 0<1 or 0<1", true);
        holds("not (0<1 or 0<1)", false);
        holds("not 0<1 and 1<0", false);
        holds("not (0<1 and 1<0)", true);
        holds("1<0 or 1<0 or 0<1", true);
        holds("1<0 or 1<0 or 1<0", false);
        holds("0<1 and 0<1 and 0<1", true);
        holds("0<1 and 0<1 and 1<0", false);
    }

    private static void words() {
        Doc.says("Words are as long as a to z go on;", 4, 5);
        rightBeach("legs1 2;person 1at0 0");
        wrongBeach("legsa 1 2", 0);
        wrongBeach("legsz 1 2", 0);
        wrongBeach("leg 1 2", 0);
        wrongBeach("legs`1 2", 4);
        wrongBeach("legs{1 2", 4);
        wrongBeach("legS 1 2", 0);
        wrongBeach("LEGS 1 2", 0);
        wrongBeach("le gs 1 2", 0);
        wrongBeach("person 1 ata 0 0", 9);
        wrongBeach("person 1 a t 0 0", 9);
        rightLaw("up1if lying or not lying and(leg<1)");
        wrongLaw("up 1 iflying", 5);
        wrongLaw("up 1 if lyingor lying", 8);
        wrongLaw("up 1 if lying orlying", 14);
        wrongLaw("up 1 if notlying", 8);
        wrongLaw("ups 1", 0);
        wrongLaw("up 1 if lyinG", 8);
    }

    private static void blanks() {
        Doc.says("between all there may be blanks (32), also ahead and behind.", 4, 5);
        rightBeach(" legs 1 2 ; thin 3 ");
        rightBeach("   move   1   up   2   down   3   stirs   4   takes   5   ;   hole   1   1   ");
        rightBeach("legs1 2;thin3");
        rightLaw("  up  1  if  not  (  leg  +  1  <  2  )  ;  down  2  ");
        rightLaw("up1if not(leg+1<2);down2");
        for (int sign : new int[] {0, 9, 10, 13, 31, 33, 160, 255}) {
            char c = (char) sign;
            wrongBeach(c + "thin 1", 0);
            wrongBeach("thin" + c + "1", 4);
            wrongBeach("thin 1" + c, 6);
            wrongBeach("thin 1;" + c + "thin 1", 7);
            wrongLaw(c + "up 1", 0);
            wrongLaw("up" + c + "1", 2);
            wrongLaw("up 1" + c, 4);
            wrongLaw("up 1 if lying" + c + "or lying", 13);
        }
        wrongBeach("legs 1" + " ".repeat(3), 9);
        wrongBeach("legs 12", 5);
    }

    private static void deep() {
        Doc.says("( and not within one another at most 6 deep.", 5);
        for (int deep : new int[] {1, 5, 6}) {
            rightLaw("up 1 if " + "(".repeat(deep) + "lying" + ")".repeat(deep));
            rightLaw("up 1 if " + "not ".repeat(deep) + "lying");
        }
        rightLaw("up 1 if not (not (not (lying)))");
        rightLaw("up 1 if (((lying and (((lying))))))");
        rightLaw("up 1 if " + "(lying) and ".repeat(8) + "not lying or not not not not not not lying");
        rightLaw("up 1 if ((((((lying)))))) and not (((((lying)))))");
        due("six nots", 8, () -> depth("legs 9 9", "up 1 if not not not not not not 0<1", 1, 0));
        due("five nots", 9, () -> depth("legs 9 9", "up 1 if not not not not not 0<1", 1, 0));
        Doc.says("the ( or not that is a 7th one deep;", 6);
        wrongLaw("up 1 if " + "(".repeat(7) + "lying" + ")".repeat(7), 14);
        wrongLaw("up 1 if " + "(".repeat(8) + "lying" + ")".repeat(8), 14);
        wrongLaw("up 1 if " + "not ".repeat(7) + "lying", 32);
        wrongLaw("up 1 if not (not (not (not lying)))", 23);
        wrongLaw("up 1 if not (not (not ((lying))))", 23);
        wrongLaw("up 1 if ((((((lying and not lying))))))", 24);
        wrongLaw("up 1 if ((((((lying)))))) and (((((((", 36);
    }

    private static void wrongBytes() {
        Doc.says("The first wrong byte: the begin of the first thing that cannot stand there", 6);
        wrongBeach("legs 1 2 3", 9);
        wrongBeach("thin 1 thin 2", 7);
        wrongBeach("1", 0);
        wrongBeach(";", 0);
        wrongBeach("thin 1;;thin 1", 7);
        wrongBeach("thin,1", 4);
        wrongBeach("person 1 1 1", 9);
        wrongBeach("move 1 down 1", 7);
        wrongBeach("up 1", 0);
        wrongLaw("legs 1 1", 0);
        wrongLaw("up 1 if lying < 3", 14);
        wrongLaw("up 1 if leg < 3 < 4", 16);
        wrongLaw("up 1 if (leg) < 3", 12);
        wrongLaw("up 1 if leg and lying", 12);
        wrongLaw("up 1 if )", 8);
        wrongLaw("up 1 if lying)", 13);
        wrongLaw("up 1 if (lying;up 1", 14);
        wrongLaw("up 1 if leg + < 2", 14);
        wrongLaw("up 1 if lying if lying", 14);
        Doc.says("(a number of more digits, or out of its bounds;", 6);
        wrongBeach("thin  0001", 6);
        wrongBeach("thin  6", 6);
        wrongBeach("thin 1;slip 101;thin 9", 12);
        wrongLaw("up 1 if leg<  1000", 14);
        wrongLaw("up   10", 5);
        Doc.says("a word that is none;", 6);
        wrongBeach("thin 1; thinn 1", 8);
        wrongBeach("person 1 on 1 1", 9);
        wrongLaw("up 1 when lying", 5);
        wrongLaw("up 1 if legs<1", 8);
        wrongLaw("up 1 if leg<1 xor lying", 14);
        letters();
        Doc.says("of a LINE, a PERSON too many, the first word)", 6);
        wrongBeach("thin 1;".repeat(14) + " thin 9", 99);
        wrongBeach("person 1 at 0 0;".repeat(6) + "person x", 96);
        wrongLaw("up 1;".repeat(12) + " up 99", 61);
    }

    /** Each word with one of its letters changed, left out or doubled is none. */
    private static void letters() {
        String[] lines = {"legs 1 1", "thin 1", "calm 1", "water 1", "tide 1", "slip 1", "bears 1 1 1", "heap 1 1", "shine 1 1",
            "hole 1 1", "boards 1", "person 1 at 1 1", "move 1 up 1 down 1 stirs 1 takes 1"};
        for (String line : lines) {
            for (int i = 0; i < line.length(); i++) {
                if (Character.isLetter(line.charAt(i))) {
                    int word = line.lastIndexOf(' ', i) + 1;
                    wrongBeach(line.substring(0, i) + "q" + line.substring(i + 1), word);
                    wrongBeach(line.substring(0, i) + line.substring(i, i + 1).repeat(2) + line.substring(i + 1), word);
                }
            }
        }
        String[] laws = {"up 1", "down 1", "stir 1", "settle 1 if lying", "up 1 if move < thin", "up 1 if calm + water < 3", "up 1 if leg > other",
            "up 1 if not lying and lying or lying"};
        for (String law : laws) {
            for (int i = 0; i < law.length(); i++) {
                if (Character.isLetter(law.charAt(i))) {
                    wrongLaw(law.substring(0, i) + "q" + law.substring(i + 1), law.lastIndexOf(' ', i) + 1);
                }
            }
        }
    }

    private static void textsLength() {
        Doc.says("or the text's length, if more must come.", 6);
        for (String text : new String[] {"legs", "legs 1", "thin", "calm", "water", "tide", "slip", "boards", "move", "move 1",
            "move 1 up", "move 1 up 1", "move 1 up 1 down", "move 1 up 1 down 1", "move 1 up 1 down 1 stirs", "bears",
            "move 1 up 1 down 1 stirs 1", "move 1 up 1 down 1 stirs 1 takes", "bears 1", "bears 1 1", "heap", "heap 1",
            "shine", "shine 1", "hole", "hole 1", "person", "person 1", "person 1 at", "person 1 at 1", "thin 1;"}) {
            wrongBeach(text, text.length());
            wrongBeach(text + "  ", text.length() + 2);
            wrongBeach(text + ";", text.length());
        }
        for (String text : new String[] {"up", "up 1 if", "up 1 if not", "up 1 if (", "up 1 if (lying", "up 1 if leg", "up 1;",
            "up 1 if leg +", "up 1 if leg <", "up 1 if leg < 1 +", "up 1 if lying and", "up 1 if lying or", "up 1 if 1"}) {
            wrongLaw(text, text.length());
            wrongLaw(text + "  ", text.length() + 2);
        }
        String full = "thin 1;" + " ".repeat(393);
        wrongBeach(full, 400);
    }

    private static final String ALL_KINDS = "legs 1 2;thin 3;calm 4;water 5;tide 6;slip 7;boards 8;hole 1 1;heap 2 2;shine 3 3;"
        + "bears 4 4 9;person 1 at 5 5;move 1 up 1 down 2 stirs 3 takes 4";

    private static void wrongTexts() {
        Doc.says("Of a wrong text nothing stays.", 4, 5);
        WaistSand x = new WaistSand();
        due("13 LINES, then a wrong one", IAE, () -> Check.beach(x, ALL_KINDS + ";thin 6"));
        due("its fault", ALL_KINDS.length() + 6, x::fault);
        int[] first = {0, 0, 0, 0, 0, 0, 0, 0, 999, 1, 0, 0, 27, 0, 0, 0, -1, 0, 0};
        for (int what = 0; what < first.length; what++) {
            int w = what;
            due("count(" + w + ")", first[w], () -> x.count(w));
        }
        due("HEAP, SHINE, BEARS", List.of(0, 0, 5), () -> List.of(x.cell(18, 1), x.cell(27, 2), x.cell(36, 0)));
        due("MOVE 1", List.of(0, 0, 0, 1), () -> List.of(x.move(1, 0), x.move(1, 1), x.move(1, 2), x.move(1, 3)));
        due("all of it with a right one", 1, () -> Check.beach(x, ALL_KINDS + ";thin 5"));
        due("all is told", List.of(1, 2, 5, 4, 5, 6, 7, 8, 9, 1), () -> List.of(x.count(0), x.count(1), x.count(2), x.count(4),
            x.count(5), x.count(8), x.count(11), x.count(14), x.count(12), x.count(13)));
        due("HEAP, SHINE, BEARS", List.of(1, 1, 9), () -> List.of(x.cell(18, 1), x.cell(27, 2), x.cell(36, 0)));
        due("MOVE 1", List.of(1, 2, 3, 4), () -> List.of(x.move(1, 0), x.move(1, 1), x.move(1, 2), x.move(1, 3)));
        Doc.says("IllegalArgumentException: the text is wrong.", 5);
        WaistSand law = Check.told("legs 9 9", "up 2");
        due("wrong at its end", IAE, () -> Check.law(law, "up 5;down 1;stir 1;"));
        due("the one before stays", List.of(1, 7, 9, 0), () -> List.of(law.count(16), law.would(1, 0, 0), law.would(1, 0, 1),
            law.would(1, 0, 2)));
    }

    private static void usedUp() {
        Doc.says("Uses the TAPE up: a text of THE BEACH: how many there are.", 4);
        WaistSand x = new WaistSand();
        due("right", 1, () -> Check.beach(x, "thin 1"));
        due("used up", List.of(false, true), () -> List.of(x.end(1), x.end(0)));
        due("wrong", IAE, () -> Check.beach(x, "thin 1 1"));
        due("used up", false, () -> x.end(1));
        for (int i = 2; i <= 12; i++) {
            x.beach();
        }
        due("a 13th", UOE, () -> Check.beach(x, "thin 1"));
        due("used up", false, () -> x.end(1));
        Doc.says("Uses the TAPE up: THE LAW: how many LINES.", 5);
        due("right", 1, () -> Check.law(x, "up 1"));
        due("used up", false, () -> x.end(1));
        due("wrong", IAE, () -> Check.law(x, "up 1 1"));
        due("used up", false, () -> x.end(1));
    }

    private static void fault() {
        Doc.says("The first wrong byte of the latest text that was read; NONE without one, and ahead of any.", 6);
        WaistSand x = new WaistSand();
        due("ahead of any", -1, x::fault);
        Check.tape(x, "thin x");
        due("not read yet", -1, x::fault);
        due("wrong", IAE, x::beach);
        due("its place", 5, x::fault);
        due("asked again", 5, x::fault);
        due("wrong", IAE, () -> Check.law(x, "up 1 x"));
        due("the latest is a law", 5, x::fault);
        due("wrong", IAE, () -> Check.law(x, "x"));
        due("at 0", 0, x::fault);
        due("a right one", 1, () -> Check.beach(x, "thin 1"));
        due("without one", -1, x::fault);
        due("wrong", IAE, () -> Check.beach(x, "thin"));
        due("its length", 4, x::fault);
        due("a right law", 0, () -> Check.law(x, ""));
        due("without one", -1, x::fault);
        due("wrong at 399", IAE, () -> Check.beach(x, " ".repeat(399) + "x"));
        due("399", 399, x::fault);
    }
}
