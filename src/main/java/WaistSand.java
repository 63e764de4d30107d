import java.util.Arrays;
import java.util.NoSuchElementException;

/** One who is in quicksand up to the waist, the shore about, and those who help. */
public final class WaistSand {
    public static final int NONE = -1;

    private static final int LEGS = 2;
    private static final int MOVES = 7;
    private static final int RESTS = 5;
    private static final int LIES_BACK = 6;
    private static final int ALL_MOVES = 127;
    private static final int PULLED = 7;
    private static final int NO_LEG = 2;
    private static final int MOST_DEPTH = 9;
    private static final int MOST_THIN = 5;
    private static final int CELLS = 64;
    private static final int MOST_TEXTS = 12;
    private static final int MOST_UNDONE = 12;
    private static final int MOST_FORCE = 20;
    private static final int MOST_PULLS = 60;
    private static final int NEVER_WITHOUT = -3;
    private static final int NO_WORTH = -99;

    private final Tape tape = new Tape();
    private final BeachReader beachReader = new BeachReader();
    private final LawReader lawReader = new LawReader();
    private final Scene now = new Scene();
    private final Scene[] past = new Scene[MOST_UNDONE];
    private final Body tried = new Body();
    private int nextPast;
    private int pasts;
    private Scene kept;
    private Ways ways;
    private int wrongByte = NONE;

    public WaistSand() {
    }

    public int feed(int a, int b, int c, int d, int e) {
        if (!tape.hasRoom()) {
            return NONE;
        }
        tape.add(a);
        tape.add(b);
        tape.add(c);
        tape.add(d);
        tape.add(e);
        return tape.length;
    }

    public boolean end(int n) {
        if (n < 0 || n > tape.length) {
            return false;
        }
        tape.length = n;
        return true;
    }

    public int beach() throws IllegalArgumentException, UnsupportedOperationException {
        boolean right = beachReader.reads(tape, now.shore.people);
        useTapeUp(right);
        if (!right) {
            throw new IllegalArgumentException("the text is wrong");
        }
        if (now.texts >= MOST_TEXTS) {
            throw new UnsupportedOperationException("there are 12 texts");
        }
        beachReader.tell(now);
        now.texts++;
        forgetPast();
        return now.texts;
    }

    public int law() throws IllegalArgumentException {
        boolean right = lawReader.reads(tape);
        useTapeUp(right);
        if (!right) {
            throw new IllegalArgumentException("the text is wrong");
        }
        now.rules.law = lawReader.made();
        forgetPast();
        return now.rules.law.lines;
    }

    public int fault() {
        return wrongByte;
    }

    public int move(int move, int what) throws IndexOutOfBoundsException, NoSuchElementException {
        if (!isMove(move)) {
            throw new IndexOutOfBoundsException("no such move");
        }
        if (what < 0 || what > 4) {
            throw new NoSuchElementException("no such what");
        }
        return what == 4 ? helps(move) : now.rules.number(move, what);
    }

    public int cell(int cell, int what) throws IndexOutOfBoundsException, NoSuchElementException {
        if (!isCell(cell)) {
            throw new IndexOutOfBoundsException("no such cell");
        }
        switch (what) {
            case 0: return now.shore.bears[cell];
            case 1: return Shore.has(now.shore.heaps, cell) ? 1 : 0;
            case 2: return Shore.has(now.shore.shines, cell) ? 1 : 0;
            case 3: return now.shore.peopleOn(cell);
            default: throw new NoSuchElementException("no such what");
        }
    }

    public int person(int person, int what) throws IndexOutOfBoundsException, NoSuchElementException {
        if (!isPerson(person)) {
            throw new IndexOutOfBoundsException("no such person");
        }
        switch (what) {
            case 0: return now.shore.weights[person];
            case 1: return now.shore.places[person];
            case 2: return now.shore.boardsToCome(person);
            case 3: return now.shore.farthest(person);
            default: throw new NoSuchElementException("no such what");
        }
    }

    public int moved(int move, int leg) throws IndexOutOfBoundsException, IllegalStateException {
        if (!isMove(move) || !isLeg(leg)) {
            throw new IndexOutOfBoundsException("no such move or leg");
        }
        if (now.body.isStill()) {
            throw new IllegalStateException("one is out, or drowned");
        }
        remember();
        now.makeMove(move, leg);
        return Pose.together(now.body.pose);
    }

    public int pull(int force) throws IllegalArgumentException, IllegalStateException {
        if (!isForce(force)) {
            throw new IllegalArgumentException("no such force");
        }
        if (now.body.isStill()) {
            throw new IllegalStateException("one is out, or drowned");
        }
        remember();
        now.makePull(force);
        return now.body.harm;
    }

    public int talk() throws IllegalStateException {
        if (now.body.isDrowned()) {
            throw new IllegalStateException("one is drowned");
        }
        remember();
        now.body.calm = Body.oneMore(now.body.calm);
        now.body.pass(1);
        return now.body.calm;
    }

    public int pour() throws IllegalStateException {
        if (now.body.isDrowned()) {
            throw new IllegalStateException("one is drowned");
        }
        remember();
        now.body.water = Body.oneMore(now.body.water);
        now.body.pass(1);
        return now.body.water;
    }

    public int walk(int person, int cell) throws IndexOutOfBoundsException, IllegalStateException {
        if (!isPerson(person) || !isCell(cell)) {
            throw new IndexOutOfBoundsException("no such person or cell");
        }
        if (!Shore.has(Shore.beside(1L << now.shore.places[person]), cell)) {
            throw new IllegalStateException("the cell is not beside the own one");
        }
        remember();
        now.shore.places[person] = cell;
        return now.shore.bears[cell];
    }

    public int board(int cell) throws IndexOutOfBoundsException, IllegalStateException {
        if (!isCell(cell)) {
            throw new IndexOutOfBoundsException("no such cell");
        }
        if (now.shore.boards < 1) {
            throw new IllegalStateException("there is no board");
        }
        remember();
        now.shore.layBoard(cell);
        return now.shore.bears[cell];
    }

    public int moves(int n) throws IllegalArgumentException {
        if (n < 1 || n > 60) {
            throw new IllegalArgumentException("no such number of moves");
        }
        remember();
        int made = 0;
        while (made < n && !now.body.isStill()) {
            int move = now.body.drawMove();
            now.makeMove(move, now.body.drawLeg());
            made++;
        }
        return made;
    }

    public int would(int move, int leg, int what) throws IndexOutOfBoundsException, NoSuchElementException {
        if (!isMove(move) || !isLeg(leg)) {
            throw new IndexOutOfBoundsException("no such move or leg");
        }
        if (what < 0 || what > 3) {
            throw new NoSuchElementException("no such what");
        }
        int pose = now.rules.after(now.body.pose, move, leg, now.body.calm, now.body.water);
        return Pose.part(pose, what);
    }

    public int soonest(int moves) {
        return minutesOut(now.body.pose, moves);
    }

    public int best(int moves, int k) {
        return waysAsItIs().bestStep(now.body.pose, moves, k);
    }

    public int latest() {
        int minutes = minutesOut(now.body.pose, ALL_MOVES);
        if (minutes == NONE || now.body.tide - minutes - 1 < 0) {
            return NONE;
        }
        return now.body.tide - minutes - 1;
    }

    public int worth(int what) throws NoSuchElementException {
        if (what < 0 || what > 2) {
            throw new NoSuchElementException("no such what");
        }
        int asItIs = minutesOut(now.body.pose, ALL_MOVES);
        int other = what == 0 ? minutesOut(Pose.lyingBack(now.body.pose), ALL_MOVES)
            : what == 1 ? minutesOutWith(Body.oneMore(now.body.calm), now.body.water)
            : minutesOutWith(now.body.calm, Body.oneMore(now.body.water));
        return asItIs == NONE || other == NONE ? NO_WORTH : asItIs - other;
    }

    public int stuck() {
        int bits = 0;
        for (int thin = 0; thin <= MOST_THIN; thin++) {
            if (minutesOut(Pose.withThin(now.body.pose, thin), ALL_MOVES) == NONE) {
                bits |= 1 << thin;
            }
        }
        return bits;
    }

    public int deepest() {
        int depth = MOST_DEPTH;
        while (depth > 0 && minutesOut(Pose.withDepths(now.body.pose, depth, depth), ALL_MOVES) == NONE) {
            depth--;
        }
        return depth;
    }

    public int round() {
        return waysAsItIs().minutesRound(now.body.pose);
    }

    public int more() {
        return waysAsItIs().statesFrom(now.body.pose);
    }

    public int run(int n, int force) throws IllegalArgumentException {
        if (!isRun(n) || !isForce(force)) {
            throw new IllegalArgumentException("no such minutes or force");
        }
        return minuteByHelp(n, force);
    }

    public boolean better(int n, int force) throws IllegalArgumentException {
        if (!isRun(n) || !isForce(force)) {
            throw new IllegalArgumentException("no such minutes or force");
        }
        int byHelp = minuteByHelp(n, force);
        if (byHelp == NONE) {
            return false;
        }
        int alone = minutesOut(now.body.pose, ALL_MOVES);
        return alone == NONE || byHelp < now.body.minute + alone;
    }

    public int force(int n, boolean harm) throws IllegalArgumentException {
        if (n < 1 || n > 30) {
            throw new IllegalArgumentException("no such number of pulls");
        }
        for (int force = 1; force <= MOST_FORCE; force++) {
            int pulls = Pose.pullsOut(now.body.pose, force);
            if (pulls != NONE && pulls <= n) {
                return harm ? pulls * Body.harmOf(force) : force;
            }
        }
        return NONE;
    }

    public int way(int person, int cell, boolean quick) throws IndexOutOfBoundsException {
        if (!isPerson(person) || !isCell(cell)) {
            throw new IndexOutOfBoundsException("no such person or cell");
        }
        return now.shore.steps(person, cell, quick);
    }

    public long reach(int person, boolean quick) throws IndexOutOfBoundsException {
        if (!isPerson(person)) {
            throw new IndexOutOfBoundsException("no such person");
        }
        return now.shore.reached(person, quick);
    }

    public int edge(int y, int weight) throws IllegalArgumentException {
        if (y < 0 || y > 7 || !isWeight(weight)) {
            throw new IllegalArgumentException("no such row or weight");
        }
        return now.shore.heldTo(y, weight);
    }

    public int signs(int weight, boolean shine) throws IllegalArgumentException {
        if (!isWeight(weight)) {
            throw new IllegalArgumentException("no such weight");
        }
        return shine ? now.shore.shineTells(weight) : now.shore.heapTells(weight);
    }

    public long sinking() {
        return now.shore.overladen();
    }

    public int holes(int cell, int deep) throws IndexOutOfBoundsException, IllegalArgumentException {
        if (!isCell(cell)) {
            throw new IndexOutOfBoundsException("no such cell");
        }
        if (deep < 1 || deep > 9) {
            throw new IllegalArgumentException("so much is none");
        }
        return now.shore.heavierBy(cell, deep);
    }

    public long rope(int weight) throws IllegalArgumentException {
        if (!isWeight(weight)) {
            throw new IllegalArgumentException("no such weight");
        }
        return now.shore.ropeCells() & now.shore.bearing(weight);
    }

    public int placed() {
        return now.shore.mostPlaced();
    }

    public int trial(int n, boolean minute) throws IllegalArgumentException {
        if (!isTrial(n)) {
            throw new IllegalArgumentException("no such number of moves");
        }
        tryOut(n, now.body.seed);
        return minute ? tried.minute : Pose.together(tried.pose);
    }

    public int span(int n, boolean most) throws IllegalArgumentException {
        if (!isTrial(n)) {
            throw new IllegalArgumentException("no such number of moves");
        }
        tryOut(n, 1);
        int found = Pose.together(tried.pose);
        for (int seed = 2; seed <= 6; seed++) {
            tryOut(n, seed);
            int depths = Pose.together(tried.pose);
            found = most ? Math.max(found, depths) : Math.min(found, depths);
        }
        return found;
    }

    public int led(int leg, boolean move) throws IndexOutOfBoundsException {
        if (leg < 0 || leg > NO_LEG) {
            throw new IndexOutOfBoundsException("no such leg");
        }
        return move ? now.diary.latestMoveOf(leg) : now.diary.rowsOf(leg);
    }

    public int log(int ago, int what) throws NoSuchElementException {
        if (what < 0 || what > 4) {
            throw new NoSuchElementException("no such what");
        }
        if (ago < 0 || ago >= now.diary.size) {
            return NONE;
        }
        return Diary.part(now.diary.row(ago), what);
    }

    public int seed(int n) {
        int before = now.body.seed;
        now.body.seed = n;
        return before;
    }

    public boolean undo() {
        int latest = nextPast > 0 ? nextPast - 1 : MOST_UNDONE - 1;
        if (pasts < 1 || past[latest] == null) {
            return false;
        }
        now.become(past[latest]);
        nextPast = latest;
        pasts--;
        return true;
    }

    public void image() {
        if (kept == null) {
            kept = new Scene();
        }
        kept.become(now);
    }

    public boolean back() {
        if (kept == null) {
            return false;
        }
        now.become(kept);
        forgetPast();
        return true;
    }

    public int count(int what) {
        switch (what) {
            case 0: case 1: case 2: case 3: return Pose.part(now.body.pose, what);
            case 4: return now.body.calm;
            case 5: return now.body.water;
            case 6: return now.body.harm;
            case 7: return now.body.minute;
            case 8: return now.body.tide;
            case 9: return Pose.isOut(now.body.pose) ? 1 : 0;
            case 10: return now.body.isDrowned() ? 1 : 0;
            case 11: return now.body.slip;
            case 12: return now.shore.hole;
            case 13: return now.shore.people;
            case 14: return now.shore.boards;
            case 15: return now.texts;
            case 16: return now.rules.law == null ? NONE : now.rules.law.lines;
            case 17: return now.diary.size;
            case 18: return pasts;
            default: return NONE;
        }
    }

    private static boolean isMove(int move) {
        return move >= 0 && move < MOVES;
    }

    private static boolean isLeg(int leg) {
        return leg >= 0 && leg < LEGS;
    }

    private static boolean isCell(int cell) {
        return cell >= 0 && cell < CELLS;
    }

    private boolean isPerson(int person) {
        return person >= 0 && person < now.shore.people;
    }

    private static boolean isForce(int force) {
        return force >= 1 && force <= MOST_FORCE;
    }

    private static boolean isRun(int minutes) {
        return minutes >= 1 && minutes <= 200;
    }

    private static boolean isWeight(int weight) {
        return weight >= 1 && weight <= 9;
    }

    private static boolean isTrial(int n) {
        return n >= 0 && n <= 40;
    }

    private void useTapeUp(boolean right) {
        wrongByte = right ? NONE : tape.at;
        tape.length = 0;
    }

    /** A ring, in which the oldest scene makes room. */
    private void remember() {
        if (past[nextPast] == null) {
            past[nextPast] = new Scene();
        }
        past[nextPast].become(now);
        nextPast = nextPast + 1 < MOST_UNDONE ? nextPast + 1 : 0;
        pasts = Math.min(MOST_UNDONE, pasts + 1);
    }

    private void forgetPast() {
        pasts = 0;
        if (ways != null) {
            ways.forget();
        }
    }

    /** The rows of a search are many, so that they are made only for one who asks for a way. */
    private Ways waysWith(int calm, int water) {
        if (ways == null) {
            ways = new Ways();
        }
        ways.lookAt(now.rules, calm, water);
        return ways;
    }

    private Ways waysAsItIs() {
        return waysWith(now.body.calm, now.body.water);
    }

    private int minutesOut(int pose, int set) {
        return waysAsItIs().search(pose, set, true);
    }

    private int minutesOutWith(int calm, int water) {
        return waysWith(calm, water).search(now.body.pose, ALL_MOVES, true);
    }

    private int helps(int move) {
        Ways asItIs = waysAsItIs();
        int all = asItIs.search(now.body.pose, ALL_MOVES, true);
        if (all == NONE) {
            return NONE;
        }
        int without = asItIs.search(now.body.pose, ALL_MOVES & ~(1 << move), true);
        return without == NONE ? NEVER_WITHOUT : without - all;
    }

    private int minuteByHelp(int n, int force) {
        Body body = now.body;
        int pose = body.pose;
        if (Pose.isOut(pose)) {
            return body.minute;
        }
        int takes = now.rules.takes(RESTS);
        int rests = takes < 1 ? 0 : n / takes;
        for (int rested = 1; rested <= rests; rested++) {
            pose = now.rules.after(pose, RESTS, 0, body.calm, body.water);
            if (Pose.isOut(pose)) {
                return body.minute + rested * takes;
            }
        }
        int pulls = Pose.pullsOut(pose, force);
        return pulls == NONE || pulls > MOST_PULLS ? NONE : body.minute + n + 2 * pulls;
    }

    private void tryOut(int n, int seed) {
        tried.become(now.body);
        tried.seed = seed;
        for (int i = 0; i < n && !tried.isStill(); i++) {
            int move = tried.drawMove();
            tried.make(now.rules, move, tried.drawLeg());
        }
    }

    /** The TAPE, and a reader on it that always stands on a thing, or at the end: never on a blank. */
    private static final class Tape {
        static final int MOST = 400;
        private static final int FED = 20;
        private static final int MOST_DIGITS = 3;

        private final byte[] bytes = new byte[MOST];
        int length;
        int number;
        int at;
        private int before;

        boolean hasRoom() {
            return length + FED <= MOST;
        }

        void add(int fourBytes) {
            for (int shift = 24; shift >= 0; shift -= 8) {
                if (length < MOST) {
                    bytes[length] = (byte) (fourBytes >> shift);
                    length++;
                }
            }
        }

        void begin() {
            at = 0;
            step(0);
        }

        private void step(int taken) {
            before = at;
            at += taken;
            while (at < length && bytes[at] == ' ') {
                at++;
            }
        }

        /** Back onto the thing that was taken last: it could not stand there. */
        boolean refuse() {
            at = before;
            return false;
        }

        boolean isEnded() {
            return at >= length;
        }

        boolean takeSign(char sign) {
            if (at >= length || bytes[at] != sign) {
                return false;
            }
            step(1);
            return true;
        }

        boolean takeWord(String word) {
            return takeOneOf(word) == 0;
        }

        /** Which of these words, with a blank between each two, stands here and is taken; or NONE. */
        int takeOneOf(String words) {
            int letters = letters();
            int which = 0;
            int start = 0;
            for (int i = 0; i <= words.length(); i++) {
                if (i == words.length() || words.charAt(i) == ' ') {
                    if (i - start == letters && isHere(words, start, letters)) {
                        step(letters);
                        return which;
                    }
                    which++;
                    start = i + 1;
                }
            }
            return NONE;
        }

        private int letters() {
            int end = at;
            while (end < length && bytes[end] >= 'a' && bytes[end] <= 'z') {
                end++;
            }
            return end - at;
        }

        private boolean isHere(String words, int start, int letters) {
            for (int i = 0; i < letters; i++) {
                if (bytes[at + i] != words.charAt(start + i)) {
                    return false;
                }
            }
            return true;
        }

        boolean takeNumber(int least, int most) {
            int end = at;
            int value = 0;
            while (end < length && bytes[end] >= '0' && bytes[end] <= '9' && end - at <= MOST_DIGITS) {
                value = 10 * value + bytes[end] - '0';
                end++;
            }
            if (end == at || end - at > MOST_DIGITS || value < least || value > most) {
                return false;
            }
            step(end - at);
            number = value;
            return true;
        }
    }

    /** Reads a text of THE BEACH whole ahead of telling it, so that of a wrong one nothing stays. */
    private static final class BeachReader {
        private static final int MOST_LINES = 14;
        private static final int MOST_NUMBERS = 5;
        private static final String KINDS =
            "legs thin calm water tide slip move bears heap shine hole boards person";
        // The places of the words in KINDS.
        private static final int LEGS_LINE = 0;
        private static final int THIN_LINE = 1;
        private static final int CALM_LINE = 2;
        private static final int WATER_LINE = 3;
        private static final int TIDE_LINE = 4;
        private static final int SLIP_LINE = 5;
        private static final int MOVE_LINE = 6;
        private static final int BEARS_LINE = 7;
        private static final int HEAP_LINE = 8;
        private static final int SHINE_LINE = 9;
        private static final int HOLE_LINE = 10;
        private static final int BOARDS_LINE = 11;
        private static final int PERSON_LINE = 12;

        private final int[] kinds = new int[MOST_LINES];
        private final int[] numbers = new int[MOST_LINES * MOST_NUMBERS];
        private int lines;
        private int taken;
        private int people;

        boolean reads(Tape tape, int peopleBefore) {
            lines = 0;
            people = peopleBefore;
            tape.begin();
            boolean goesOn = !tape.isEnded();
            for (int i = 0; i <= MOST_LINES && goesOn; i++) {
                if (!readLine(tape)) {
                    return false;
                }
                goesOn = tape.takeSign(';');
            }
            return tape.isEnded();
        }

        private boolean readLine(Tape tape) {
            if (lines >= MOST_LINES) {
                return false;
            }
            int kind = tape.takeOneOf(KINDS);
            if (kind == NONE) {
                return false;
            }
            if (kind == PERSON_LINE && people >= Shore.MOST_PEOPLE) {
                return tape.refuse();
            }
            kinds[lines] = kind;
            taken = 0;
            if (!readRest(tape, kind)) {
                return false;
            }
            people += kind == PERSON_LINE ? 1 : 0;
            lines++;
            return true;
        }

        private boolean readRest(Tape tape, int kind) {
            switch (kind) {
                case LEGS_LINE:
                    return take(tape, 0, 9) && take(tape, 0, 9);
                case THIN_LINE:
                    return take(tape, 0, 5);
                case CALM_LINE: case WATER_LINE: case BOARDS_LINE:
                    return take(tape, 0, 9);
                case TIDE_LINE:
                    return take(tape, 0, 999);
                case MOVE_LINE:
                    return take(tape, 0, 6) && tape.takeWord("up") && take(tape, 0, 9)
                        && tape.takeWord("down") && take(tape, 0, 9)
                        && tape.takeWord("stirs") && take(tape, 0, 5)
                        && tape.takeWord("takes") && take(tape, 1, 30);
                case SLIP_LINE:
                    return take(tape, 0, 100);
                case BEARS_LINE:
                    return takePlace(tape) && take(tape, 0, 9);
                case PERSON_LINE:
                    return take(tape, 1, 9) && tape.takeWord("at") && takePlace(tape);
                default:
                    return takePlace(tape);
            }
        }

        private boolean takePlace(Tape tape) {
            return take(tape, 0, 7) && take(tape, 0, 7);
        }

        private boolean take(Tape tape, int least, int most) {
            if (taken >= MOST_NUMBERS || !tape.takeNumber(least, most)) {
                return false;
            }
            numbers[lines * MOST_NUMBERS + taken] = tape.number;
            taken++;
            return true;
        }

        void tell(Scene scene) {
            for (int line = 0; line < lines; line++) {
                int at = line * MOST_NUMBERS;
                if (kinds[line] < MOVE_LINE) {
                    tellBody(scene.body, kinds[line], at);
                } else if (kinds[line] == MOVE_LINE) {
                    scene.rules.tell(numbers, at);
                } else {
                    tellShore(scene.shore, kinds[line], at);
                }
            }
        }

        private void tellBody(Body body, int kind, int at) {
            int number = numbers[at];
            switch (kind) {
                case LEGS_LINE: body.pose = Pose.withDepths(body.pose, number, numbers[at + 1]); break;
                case THIN_LINE: body.pose = Pose.withThin(body.pose, number); break;
                case CALM_LINE: body.calm = number; break;
                case WATER_LINE: body.water = number; break;
                case TIDE_LINE: body.tide = number; break;
                default: body.slip = number;
            }
        }

        private void tellShore(Shore shore, int kind, int at) {
            switch (kind) {
                case BEARS_LINE: shore.bears[placeAt(at)] = numbers[at + 2]; break;
                case HEAP_LINE: shore.heaps |= 1L << placeAt(at); break;
                case SHINE_LINE: shore.shines |= 1L << placeAt(at); break;
                case HOLE_LINE: shore.hole = placeAt(at); break;
                case PERSON_LINE: shore.addPerson(numbers[at], placeAt(at + 1)); break;
                default: shore.boards = numbers[at];
            }
        }

        private int placeAt(int at) {
            return Shore.cellAt(numbers[at], numbers[at + 1]);
        }
    }

    /** Reads a text of THE LAW into rows that are used again; made() copies what was read. */
    private static final class LawReader {
        private static final int MOST_LINES = 12;
        private static final int MOST_DEEP = 6;
        private static final int CONSTANT = Law.FACTS;

        private final int[] kinds = new int[MOST_LINES];
        private final int[] amounts = new int[MOST_LINES];
        private final int[] starts = new int[MOST_LINES + 1];
        // A comparison, a word or a sign never has fewer bytes than it makes numbers.
        private final int[] code = new int[Tape.MOST];
        private final int[] weights = new int[Law.FACTS + 1];
        private int lines;
        private int used;

        Law made() {
            return new Law(Arrays.copyOf(kinds, lines), Arrays.copyOf(amounts, lines),
                Arrays.copyOf(starts, lines + 1), Arrays.copyOf(code, used));
        }

        boolean reads(Tape tape) {
            lines = 0;
            used = 0;
            tape.begin();
            boolean goesOn = !tape.isEnded();
            for (int i = 0; i <= MOST_LINES && goesOn; i++) {
                if (!readLine(tape)) {
                    return false;
                }
                goesOn = tape.takeSign(';');
            }
            return tape.isEnded();
        }

        private boolean readLine(Tape tape) {
            if (lines >= MOST_LINES) {
                return false;
            }
            int kind = tape.takeOneOf(Law.KINDS);
            if (kind == NONE || !tape.takeNumber(0, 9)) {
                return false;
            }
            kinds[lines] = kind;
            amounts[lines] = tape.number;
            if (tape.takeWord("if") && !readCondition(tape, 0)) {
                return false;
            }
            lines++;
            starts[lines] = used;
            return true;
        }

        private boolean readCondition(Tape tape, int deep) {
            if (!readAll(tape, deep)) {
                return false;
            }
            for (int i = 0; i < Tape.MOST && tape.takeWord("or"); i++) {
                if (!readAll(tape, deep) || !put(Law.OR)) {
                    return false;
                }
            }
            return true;
        }

        private boolean readAll(Tape tape, int deep) {
            if (!readAtom(tape, deep)) {
                return false;
            }
            for (int i = 0; i < Tape.MOST && tape.takeWord("and"); i++) {
                if (!readAtom(tape, deep) || !put(Law.AND)) {
                    return false;
                }
            }
            return true;
        }

        private boolean readAtom(Tape tape, int deep) {
            if (tape.takeWord("not")) {
                return deep < MOST_DEEP ? readAtom(tape, deep + 1) && put(Law.NOT) : tape.refuse();
            }
            if (tape.takeSign('(')) {
                return deep < MOST_DEEP ? readCondition(tape, deep + 1) && tape.takeSign(')') : tape.refuse();
            }
            if (tape.takeWord("lying")) {
                return put(Law.LYING);
            }
            Arrays.fill(weights, 0);
            if (!readSum(tape, 1)) {
                return false;
            }
            boolean less = tape.takeSign('<');
            if (!less && !tape.takeSign('>')) {
                return false;
            }
            return readSum(tape, -1) && putComparison(less ? 1 : -1);
        }

        private boolean readSum(Tape tape, int side) {
            boolean goesOn = true;
            for (int i = 0; i < Tape.MOST && goesOn; i++) {
                int fact = tape.takeOneOf(Law.FACT_NAMES);
                if (fact != NONE) {
                    weights[fact] += side;
                } else if (tape.takeNumber(0, 999)) {
                    weights[CONSTANT] += side * tape.number;
                } else {
                    return false;
                }
                goesOn = tape.takeSign('+');
            }
            return true;
        }

        /** Left less right below 0; a > is the same with both sides changed, hence the turn. */
        private boolean putComparison(int turn) {
            if (!put(Law.LESS) || !put(turn * weights[CONSTANT]) || !put(0)) {
                return false;
            }
            int counter = used - 1;
            for (int fact = 0; fact < Law.FACTS; fact++) {
                if (weights[fact] != 0) {
                    if (!put(fact) || !put(turn * weights[fact])) {
                        return false;
                    }
                    code[counter]++;
                }
            }
            return true;
        }

        private boolean put(int number) {
            if (used >= code.length) {
                return false;
            }
            code[used] = number;
            used++;
            return true;
        }
    }

    /** THE LAW: of each LINE its kind, its N, and its condition as code that works on a row of bits. */
    private static final class Law {
        static final String KINDS = "up down stir settle";
        // The places of the words in KINDS; settle is what is left.
        private static final int UP = 0;
        private static final int DOWN = 1;
        private static final int STIR = 2;

        static final String FACT_NAMES = "move leg other thin calm water";
        // The places of the words in FACT_NAMES.
        static final int MOVE = 0;
        static final int LEG = 1;
        static final int OTHER = 2;
        static final int THIN = 3;
        static final int CALM = 4;
        static final int WATER = 5;
        static final int FACTS = 6;

        static final int LESS = 0;
        static final int LYING = 1;
        static final int NOT = 2;
        static final int AND = 3;
        static final int OR = 4;

        final int lines;
        private final int[] kinds;
        private final int[] amounts;
        private final int[] starts;
        private final int[] code;
        private final int[] facts = new int[FACTS];
        private int lying;
        int up;
        int down;
        int stir;

        Law(int[] kinds, int[] amounts, int[] starts, int[] code) {
            this.lines = kinds.length;
            this.kinds = kinds;
            this.amounts = amounts;
            this.starts = starts;
            this.code = code;
        }

        /** Adds up the LINES that hold for a MOVE from a POSE. */
        void weigh(int pose, int move, int leg, int other, int calm, int water) {
            facts[MOVE] = move;
            facts[LEG] = leg;
            facts[OTHER] = other;
            facts[THIN] = Pose.thin(pose);
            facts[CALM] = calm;
            facts[WATER] = water;
            lying = Pose.lying(pose);
            up = 0;
            down = 0;
            stir = 0;
            for (int line = 0; line < lines; line++) {
                if (holds(starts[line], starts[line + 1])) {
                    switch (kinds[line]) {
                        case UP: up += amounts[line]; break;
                        case DOWN: down += amounts[line]; break;
                        case STIR: stir += amounts[line]; break;
                        default: stir -= amounts[line];
                    }
                }
            }
        }

        private boolean holds(int from, int to) {
            if (from == to) {
                return true;
            }
            int bits = 0;
            int at = from;
            for (int parts = from; parts < to && at < to; parts++) {
                int last = bits & 1;
                switch (code[at]) {
                    case LESS:
                        int end = at + 3 + 2 * code[at + 2];
                        int sum = code[at + 1];
                        for (int i = at + 3; i < end; i += 2) {
                            sum += code[i + 1] * facts[code[i]];
                        }
                        bits = bits << 1 | (sum < 0 ? 1 : 0);
                        at = end - 1;
                        break;
                    case LYING: bits = bits << 1 | lying; break;
                    case NOT: bits ^= 1; break;
                    case AND: bits = bits >>> 1 & (last | ~1); break;
                    default: bits = bits >>> 1 | last;
                }
                at++;
            }
            return (bits & 1) == 1;
        }

        boolean asks(int fact) {
            int at = 0;
            for (int parts = 0; parts < code.length && at < code.length; parts++) {
                if (code[at] == LESS) {
                    int end = at + 3 + 2 * code[at + 2];
                    for (int i = at + 3; i < end; i += 2) {
                        if (code[i] == fact) {
                            return true;
                        }
                    }
                    at = end;
                } else {
                    at++;
                }
            }
            return false;
        }
    }

    /** DEPTHS, THIN and LYING as one number: the states that a search goes through. */
    private static final class Pose {
        static final int ALL = 1200;
        static final int OUT = 12;

        static int of(int depth0, int depth1, int thin, int lying) {
            return ((depth0 * 10 + depth1) * 6 + thin) * 2 + lying;
        }

        static int depth0(int pose) {
            return pose / 120;
        }

        static int depth1(int pose) {
            return pose / 12 % 10;
        }

        static int thin(int pose) {
            return pose / 2 % 6;
        }

        static int lying(int pose) {
            return pose & 1;
        }

        static int part(int pose, int what) {
            switch (what) {
                case 0: return depth0(pose);
                case 1: return depth1(pose);
                case 2: return thin(pose);
                default: return lying(pose);
            }
        }

        static boolean isOut(int pose) {
            return pose < OUT;
        }

        static int together(int pose) {
            return depth0(pose) + depth1(pose);
        }

        static int withDepths(int pose, int depth0, int depth1) {
            return of(depth0, depth1, thin(pose), lying(pose));
        }

        static int withThin(int pose, int thin) {
            return of(depth0(pose), depth1(pose), thin, lying(pose));
        }

        static int lyingBack(int pose) {
            return pose | 1;
        }

        static int deeperByOne(int pose) {
            return withDepths(pose, Math.min(MOST_DEPTH, depth0(pose) + 1), Math.min(MOST_DEPTH, depth1(pose) + 1));
        }

        private static int lift(int pose, int force) {
            int lift = force - (MOST_THIN - thin(pose)) / 2 - (lying(pose) == 1 ? 0 : 5);
            return Math.max(0, lift);
        }

        static int pulled(int pose, int force) {
            int lift = lift(pose, force);
            return withDepths(pose, Math.max(0, depth0(pose) - lift), Math.max(0, depth1(pose) - lift));
        }

        /** A PULL leaves THIN and LYING alone, so that each lifts as much as the first. */
        static int pullsOut(int pose, int force) {
            if (isOut(pose)) {
                return 0;
            }
            int lift = lift(pose, force);
            int deeper = Math.max(depth0(pose), depth1(pose));
            return lift < 1 ? NONE : (deeper + lift - 1) / lift;
        }
    }

    /** What the MOVES are told to do, and THE LAW. */
    private static final class Rules {
        private static final int NUMBERS = 4;
        private static final int TAKES = 3;

        private final int[] numbers = new int[MOVES * NUMBERS];
        Law law;

        Rules() {
            for (int move = 0; move < MOVES; move++) {
                numbers[NUMBERS * move + TAKES] = 1;
            }
        }

        void become(Rules other) {
            System.arraycopy(other.numbers, 0, numbers, 0, numbers.length);
            law = other.law;
        }

        void tell(int[] told, int at) {
            System.arraycopy(told, at + 1, numbers, NUMBERS * told[at], NUMBERS);
        }

        int number(int move, int what) {
            return numbers[NUMBERS * move + what];
        }

        int takes(int move) {
            return numbers[NUMBERS * move + TAKES];
        }

        int after(int pose, int move, int leg, int calm, int water) {
            boolean ofOne = move < RESTS;
            boolean turned = ofOne && leg == 1;
            int own = turned ? Pose.depth1(pose) : Pose.depth0(pose);
            int other = turned ? Pose.depth0(pose) : Pose.depth1(pose);
            int up = numbers[NUMBERS * move];
            int down = numbers[NUMBERS * move + 1];
            int thin = Pose.thin(pose) + numbers[NUMBERS * move + 2];
            if (law != null && law.lines > 0) {
                law.weigh(pose, move, own, other, calm, water);
                up += law.up;
                down += law.down;
                thin += law.stir;
            }
            own = lessDeep(own, up);
            if (!ofOne) {
                own = deeper(own, down);
                other = lessDeep(other, up);
            }
            other = deeper(other, down);
            thin = thin < 0 ? 0 : thin > MOST_THIN ? MOST_THIN : thin;
            return Pose.of(turned ? other : own, turned ? own : other, thin, lyingBehind(pose, move));
        }

        private static int lessDeep(int depth, int up) {
            return depth > up ? depth - up : 0;
        }

        private static int deeper(int depth, int down) {
            return depth + down < MOST_DEPTH ? depth + down : MOST_DEPTH;
        }

        private static int lyingBehind(int pose, int move) {
            if (move == LIES_BACK) {
                return 1;
            }
            return move == 0 || move == 3 || move == 4 ? 0 : Pose.lying(pose);
        }
    }

    /** THE BODY, and what time and draws do to it. */
    private static final class Body {
        private static final int MOST_MINUTE = 9999;
        private static final int MOST_HARM = 999;
        private static final int HARMLESS = 8;

        int pose;
        int calm;
        int water;
        int harm;
        int minute;
        int tide = 999;
        int slip;
        int seed = 1;

        void become(Body other) {
            pose = other.pose;
            calm = other.calm;
            water = other.water;
            harm = other.harm;
            minute = other.minute;
            tide = other.tide;
            slip = other.slip;
            seed = other.seed;
        }

        boolean isDrowned() {
            return minute >= tide && !Pose.isOut(pose);
        }

        boolean isStill() {
            return Pose.isOut(pose) || isDrowned();
        }

        static int oneMore(int level) {
            return Math.min(9, level + 1);
        }

        static int harmOf(int force) {
            return Math.max(0, force - HARMLESS);
        }

        void pass(int minutes) {
            minute = Math.min(MOST_MINUTE, minute + minutes);
        }

        private int draw() {
            seed = 1103515245 * seed + 12345;
            return seed >>> 16 & 0x7fff;
        }

        int drawMove() {
            return draw() % MOVES;
        }

        int drawLeg() {
            return draw() % LEGS;
        }

        void make(Rules rules, int move, int leg) {
            pose = rules.after(pose, move, leg, calm, water);
            pass(rules.takes(move));
            boolean slips = draw() % 100 < slip;
            if (slips && !Pose.isOut(pose)) {
                pose = Pose.deeperByOne(pose);
            }
        }

        void bePulled(int force) {
            pose = Pose.pulled(pose, force);
            harm = Math.min(MOST_HARM, harm + harmOf(force));
            pass(2);
        }
    }

    /** THE LOG: a ring of rows, each held in the bits of one number. */
    private static final class Diary {
        private static final int MOST = 60;

        private final int[] rows = new int[MOST];
        private int next;
        int size;

        void become(Diary other) {
            System.arraycopy(other.rows, 0, rows, 0, MOST);
            next = other.next;
            size = other.size;
        }

        void add(int minute, int move, int leg, int pose) {
            rows[next] = minute << 13 | move << 10 | leg << 8 | Pose.depth0(pose) << 4 | Pose.depth1(pose);
            next = next + 1 < MOST ? next + 1 : 0;
            size = Math.min(MOST, size + 1);
        }

        int row(int ago) {
            int at = next - 1 - ago;
            return rows[at < 0 ? at + MOST : at];
        }

        static int part(int row, int what) {
            switch (what) {
                case 0: return row >> 13;
                case 1: return row >> 10 & 7;
                case 2: return row >> 8 & 3;
                case 3: return row >> 4 & 15;
                default: return row & 15;
            }
        }

        int rowsOf(int leg) {
            int found = 0;
            for (int ago = 0; ago < size; ago++) {
                if (part(row(ago), 2) == leg) {
                    found++;
                }
            }
            return found;
        }

        int latestMoveOf(int leg) {
            for (int ago = 0; ago < size; ago++) {
                if (part(row(ago), 2) == leg) {
                    return part(row(ago), 1);
                }
            }
            return NONE;
        }
    }

    /** THE SHORE: sets of CELLS are bits of a long, so that a whole step of a flood is a few shifts. */
    private static final class Shore {
        static final int MOST_PEOPLE = 6;
        private static final int SIDE = 8;
        private static final int BOARD_BEARS = 3;
        private static final long LEFT_COLUMN = 0x0101010101010101L;
        private static final long RIGHT_COLUMN = 0x8080808080808080L;

        final int[] bears = new int[CELLS];
        final int[] weights = new int[MOST_PEOPLE];
        final int[] places = new int[MOST_PEOPLE];
        long heaps;
        long shines;
        int hole = 27;
        int people;
        int boards;

        Shore() {
            Arrays.fill(bears, 5);
        }

        void become(Shore other) {
            System.arraycopy(other.bears, 0, bears, 0, CELLS);
            System.arraycopy(other.weights, 0, weights, 0, MOST_PEOPLE);
            System.arraycopy(other.places, 0, places, 0, MOST_PEOPLE);
            heaps = other.heaps;
            shines = other.shines;
            hole = other.hole;
            people = other.people;
            boards = other.boards;
        }

        static int cellAt(int x, int y) {
            return SIDE * y + x;
        }

        static boolean has(long cells, int cell) {
            return (cells >>> cell & 1) == 1;
        }

        static long beside(long cells) {
            return cells << SIDE | cells >>> SIDE | (cells & ~RIGHT_COLUMN) << 1 | (cells & ~LEFT_COLUMN) >>> 1;
        }

        long bearing(int weight) {
            long cells = 0;
            for (int cell = 0; cell < CELLS; cell++) {
                if (bears[cell] >= weight) {
                    cells |= 1L << cell;
                }
            }
            return cells;
        }

        void addPerson(int weight, int cell) {
            if (people < MOST_PEOPLE) {
                weights[people] = weight;
                places[people] = cell;
                people++;
            }
        }

        void layBoard(int cell) {
            bears[cell] = Math.min(9, bears[cell] + BOARD_BEARS);
            boards--;
        }

        int peopleOn(int cell) {
            int bits = 0;
            for (int person = 0; person < people; person++) {
                if (places[person] == cell) {
                    bits |= 1 << person;
                }
            }
            return bits;
        }

        int steps(int person, int cell, boolean quick) {
            long free = bearing(quick ? weights[person] - 1 : weights[person]);
            long reached = 1L << places[person];
            for (int steps = 0; steps < CELLS; steps++) {
                if (has(reached, cell)) {
                    return steps;
                }
                reached |= beside(reached) & free;
            }
            return NONE;
        }

        private static long flood(long from, long free) {
            long reached = from;
            for (int steps = 0; steps < CELLS; steps++) {
                long wider = reached | beside(reached) & free;
                if (wider == reached) {
                    return reached;
                }
                reached = wider;
            }
            return reached;
        }

        long reached(int person, boolean quick) {
            return flood(1L << places[person], bearing(quick ? weights[person] - 1 : weights[person]));
        }

        int farthest(int person) {
            long cells = reached(person, false);
            int far = 0;
            for (int cell = 0; cell < CELLS; cell++) {
                if (has(cells, cell)) {
                    far = Math.max(far, distance(cell, places[person]));
                }
            }
            return far;
        }

        private static int distance(int a, int b) {
            return Math.abs(a % SIDE - b % SIDE) + Math.abs(a / SIDE - b / SIDE);
        }

        int boardsToCome(int person) {
            long walls = 1L << hole;
            long aims = beside(walls);
            long free = bearing(weights[person]) & ~walls;
            long withBoard = bearing(weights[person] - BOARD_BEARS) & ~walls;
            long reached = flood(1L << places[person], free);
            for (int laid = 0; laid <= boards; laid++) {
                if ((reached & aims) != 0) {
                    return laid;
                }
                reached = flood(reached | beside(reached) & withBoard, free);
            }
            return NONE;
        }

        int heldTo(int y, int weight) {
            int x = 0;
            while (x < SIDE && bears[cellAt(x, y)] >= weight) {
                x++;
            }
            return x - 1;
        }

        int heapTells(int weight) {
            long told = heaps & ~shines;
            return hundredths(told & bearing(weight), told);
        }

        int shineTells(int weight) {
            long told = shines & ~heaps;
            return hundredths(told & ~bearing(weight), told);
        }

        private static int hundredths(long some, long all) {
            int whole = Long.bitCount(all);
            return whole == 0 ? 0 : 100 * Long.bitCount(some) / whole;
        }

        long overladen() {
            long cells = 0;
            for (int person = 0; person < people; person++) {
                if (laden(places[person]) > bears[places[person]]) {
                    cells |= 1L << places[person];
                }
            }
            return cells;
        }

        private int laden(int cell) {
            int weight = 0;
            for (int person = 0; person < people; person++) {
                if (places[person] == cell) {
                    weight += weights[person];
                }
            }
            return weight;
        }

        int heavierBy(int cell, int deep) {
            int bits = 0;
            for (int person = 0; person < people; person++) {
                if (weights[person] - bears[cell] == deep) {
                    bits |= 1 << person;
                }
            }
            return bits;
        }

        long ropeCells() {
            long one = beside(1L << hole);
            return (one | beside(one)) & ~(1L << hole);
        }

        /** Who is lighter can stand wherever a heavier one can: the weakest cell takes the lightest left. */
        int mostPlaced() {
            long rope = ropeCells();
            int standing = 0;
            for (int strength = 1; strength <= 9; strength++) {
                int cells = Long.bitCount(rope & bearing(strength) & ~bearing(strength + 1));
                standing += Math.min(cells, notHeavierThan(strength) - standing);
            }
            return standing;
        }

        private int notHeavierThan(int weight) {
            int found = 0;
            for (int person = 0; person < people; person++) {
                if (weights[person] <= weight) {
                    found++;
                }
            }
            return found;
        }
    }

    /** All that acts and texts change, to be copied for what is undone and for THE IMAGE. */
    private static final class Scene {
        final Body body = new Body();
        final Rules rules = new Rules();
        final Shore shore = new Shore();
        final Diary diary = new Diary();
        int texts;

        void become(Scene other) {
            body.become(other.body);
            rules.become(other.rules);
            shore.become(other.shore);
            diary.become(other.diary);
            texts = other.texts;
        }

        void makeMove(int move, int leg) {
            int minute = body.minute;
            body.make(rules, move, leg);
            diary.add(minute, move, move < RESTS ? leg : NO_LEG, body.pose);
        }

        void makePull(int force) {
            int minute = body.minute;
            body.bePulled(force);
            diary.add(minute, PULLED, NO_LEG, body.pose);
        }
    }

    /** The search through all states: those as many MINUTES away wait in one slot, the nearest slot is next. */
    private static final class Ways {
        private static final int STEPS = 12;
        private static final int SLOTS = 31;
        private static final int LONGEST = Pose.ALL * 30;
        private static final int STATE_BITS = 11;

        private final int[] targets = new int[Pose.ALL * STEPS];
        private final int[] minutes = new int[Pose.ALL];
        private final int[] behind = new int[Pose.ALL];
        private final int[] ahead = new int[Pose.ALL];
        private final int[] order = new int[Pose.ALL];
        private final boolean[] leads = new boolean[Pose.ALL];
        private final int[] slots = new int[SLOTS];
        private int ordered;
        private int waiting;
        private int stamp = 1;
        private Rules rules;
        private int calm;
        private int water;

        void forget() {
            stamp++;
        }

        /** Targets that were found stay good as long as THE LAW cannot tell the difference. */
        void lookAt(Rules asked, int askedCalm, int askedWater) {
            Law law = asked.law;
            if (law != null && (askedCalm != calm && law.asks(Law.CALM) || askedWater != water && law.asks(Law.WATER))) {
                forget();
            }
            rules = asked;
            calm = askedCalm;
            water = askedWater;
        }

        /** The MINUTES to the first state that is OUT; or NONE, with all that can be come to in order. */
        int search(int start, int set, boolean tillOut) {
            begin(start);
            for (int time = 0; time <= LONGEST && waiting > 0; time++) {
                int slot = time % SLOTS;
                for (int i = 0; i < Pose.ALL && slots[slot] != NONE; i++) {
                    int state = slots[slot];
                    if (tillOut && Pose.isOut(state)) {
                        return time;
                    }
                    leaveSlot(state);
                    order[ordered] = state;
                    ordered++;
                    if (!Pose.isOut(state)) {
                        lookOn(state, set);
                    }
                }
            }
            return NONE;
        }

        private void begin(int start) {
            Arrays.fill(minutes, NONE);
            Arrays.fill(slots, NONE);
            ordered = 0;
            waiting = 0;
            enterSlot(start, 0);
        }

        private void lookOn(int state, int set) {
            for (int step = 0; step < STEPS; step++) {
                if (isIn(set, step)) {
                    int target = target(state, step);
                    int time = minutes[state] + rules.takes(moveOf(step));
                    if (minutes[target] == NONE) {
                        enterSlot(target, time);
                    } else if (time < minutes[target]) {
                        leaveSlot(target);
                        enterSlot(target, time);
                    }
                }
            }
        }

        private void enterSlot(int state, int time) {
            int slot = time % SLOTS;
            int first = slots[slot];
            minutes[state] = time;
            ahead[state] = NONE;
            behind[state] = first;
            if (first != NONE) {
                ahead[first] = state;
            }
            slots[slot] = state;
            waiting++;
        }

        private void leaveSlot(int state) {
            if (ahead[state] == NONE) {
                slots[minutes[state] % SLOTS] = behind[state];
            } else {
                behind[ahead[state]] = behind[state];
            }
            if (behind[state] != NONE) {
                ahead[behind[state]] = ahead[state];
            }
            waiting--;
        }

        /** Steps 0 to 9 are 2 times MOVE and LEG; the two MOVES of none have one step each. */
        private static int moveOf(int step) {
            return step < 2 * RESTS ? step >> 1 : step - RESTS;
        }

        private static int numberOf(int step) {
            return step < 2 * RESTS ? step : 2 * moveOf(step);
        }

        private static boolean isIn(int set, int step) {
            return (set >> moveOf(step) & 1) == 1;
        }

        private int target(int state, int step) {
            int at = state * STEPS + step;
            if (targets[at] >> STATE_BITS != stamp) {
                int target = rules.after(state, moveOf(step), step & 1, calm, water);
                targets[at] = stamp << STATE_BITS | target;
            }
            return targets[at] & (1 << STATE_BITS) - 1;
        }

        int bestStep(int start, int set, int k) {
            int time = search(start, set, true);
            if (time == NONE || k < 0) {
                return NONE;
            }
            markLeading(set, time);
            int state = start;
            for (int i = 0; i < Pose.ALL && !Pose.isOut(state); i++) {
                int step = leadingStep(state, set);
                if (step == NONE) {
                    return NONE;
                }
                if (i == k) {
                    return numberOf(step);
                }
                state = target(state, step);
            }
            return NONE;
        }

        /** Backwards by time, as a state leads OUT in time just if one behind it does. */
        private void markLeading(int set, int time) {
            for (int state = 0; state < Pose.ALL; state++) {
                leads[state] = Pose.isOut(state) && minutes[state] == time;
            }
            for (int i = ordered - 1; i >= 0; i--) {
                leads[order[i]] = leadingStep(order[i], set) != NONE;
            }
        }

        private int leadingStep(int state, int set) {
            for (int step = 0; step < STEPS; step++) {
                if (isIn(set, step)) {
                    int target = target(state, step);
                    if (leads[target] && minutes[target] == minutes[state] + rules.takes(moveOf(step))) {
                        return step;
                    }
                }
            }
            return NONE;
        }

        int statesFrom(int start) {
            search(start, ALL_MOVES, false);
            return ordered;
        }

        int minutesRound(int start) {
            search(start, ALL_MOVES, false);
            int least = NONE;
            for (int i = 0; i < ordered; i++) {
                int time = minutesHome(order[i], start);
                if (time != NONE && (least == NONE || time < least)) {
                    least = time;
                }
            }
            return least;
        }

        private int minutesHome(int state, int start) {
            int least = NONE;
            for (int step = 0; step < STEPS && !Pose.isOut(state); step++) {
                int time = minutes[state] + rules.takes(moveOf(step));
                if (target(state, step) == start && (least == NONE || time < least)) {
                    least = time;
                }
            }
            return least;
        }
    }
}
