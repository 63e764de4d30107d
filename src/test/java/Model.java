import java.util.ArrayDeque;
import java.util.ArrayList;
import java.util.Arrays;
import java.util.HashMap;
import java.util.List;
import java.util.Map;
import java.util.NoSuchElementException;
import java.util.PriorityQueue;

/**
 * The document once more, written slowly and by other means than the class: whole copies for undo, texts read by a
 * machine of states, the law read anew at each move, ways by sweeps over all states, helpers placed by trying all.
 */
public final class Model {
    static final int NONE = -1;

    static final class Wrong extends Exception {
        private static final long serialVersionUID = 1;
        final int at;

        Wrong(int at) {
            this.at = at;
        }
    }

    record Token(char kind, String text, int at) {
    }

    record Stand(int a, int b, int thin, boolean lying) {
        boolean out() {
            return a == 0 && b == 0;
        }
    }

    record Row(int minute, int move, int leg, int a, int b) {
    }

    record Person(int weight, int cell) {
    }

    static final class State {
        int[] legs = new int[2];
        int thin;
        boolean lying;
        int calm;
        int water;
        int harm;
        int minute;
        int tide = 999;
        int slip;
        int[][] moves = new int[7][];
        int[][] bears = new int[8][8];
        boolean[][] heap = new boolean[8][8];
        boolean[][] shine = new boolean[8][8];
        int holeX = 3;
        int holeY = 3;
        List<Person> people = new ArrayList<>();
        int boards;
        int seed = 1;
        int texts;
        List<List<Token>> law;
        List<Row> log = new ArrayList<>();

        State() {
            for (int i = 0; i < 7; i++) {
                moves[i] = new int[] {0, 0, 0, 1};
            }
            for (int[] row : bears) {
                Arrays.fill(row, 5);
            }
        }

        State copy() {
            State s = new State();
            s.legs = legs.clone();
            s.thin = thin;
            s.lying = lying;
            s.calm = calm;
            s.water = water;
            s.harm = harm;
            s.minute = minute;
            s.tide = tide;
            s.slip = slip;
            for (int i = 0; i < 7; i++) {
                s.moves[i] = moves[i].clone();
            }
            for (int i = 0; i < 8; i++) {
                s.bears[i] = bears[i].clone();
                s.heap[i] = heap[i].clone();
                s.shine[i] = shine[i].clone();
            }
            s.holeX = holeX;
            s.holeY = holeY;
            s.people = new ArrayList<>(people);
            s.boards = boards;
            s.seed = seed;
            s.texts = texts;
            s.law = law;
            s.log = new ArrayList<>(log);
            return s;
        }

        Stand stand() {
            return new Stand(legs[0], legs[1], thin, lying);
        }

        void stand(Stand s) {
            legs[0] = s.a;
            legs[1] = s.b;
            thin = s.thin;
            lying = s.lying;
        }

        boolean out() {
            return stand().out();
        }

        boolean drowned() {
            return minute >= tide && !out();
        }

        int draw() {
            seed = seed * 1103515245 + 12345;
            return (seed >> 16) & 32767;
        }
    }

    private State s = new State();
    private State image;
    private final ArrayDeque<State> undos = new ArrayDeque<>();
    private String tape = "";
    private int fault = NONE;

    // ---- texts

    private static List<Token> tokens(String text) {
        List<Token> found = new ArrayList<>();
        int i = 0;
        while (i < text.length()) {
            char c = text.charAt(i);
            int j = i + 1;
            if (c == ' ') {
                i++;
                continue;
            }
            char kind = c;
            if (c >= 'a' && c <= 'z') {
                kind = 'w';
                while (j < text.length() && text.charAt(j) >= 'a' && text.charAt(j) <= 'z') {
                    j++;
                }
            } else if (c >= '0' && c <= '9') {
                kind = '0';
                while (j < text.length() && text.charAt(j) >= '0' && text.charAt(j) <= '9') {
                    j++;
                }
            } else if (";()<>+".indexOf(c) < 0) {
                kind = '?';
            }
            found.add(new Token(kind, text.substring(i, j), i));
            i = j;
        }
        found.add(new Token('.', "", text.length()));
        return found;
    }

    private static final String[] BEACH = {"legs 0-9 0-9", "thin 0-5", "calm 0-9", "water 0-9", "tide 0-999",
        "move 0-6 up 0-9 down 0-9 stirs 0-5 takes 1-30", "slip 0-100", "bears 0-7 0-7 0-9", "heap 0-7 0-7",
        "shine 0-7 0-7", "hole 0-7 0-7", "person 1-9 at 0-7 0-7", "boards 0-9"};

    private static List<List<Integer>> readBeach(String text, int people, List<String> words) throws Wrong {
        List<List<Integer>> lines = new ArrayList<>();
        List<Token> all = tokens(text);
        int i = 0;
        if (all.get(0).kind == '.') {
            return lines;
        }
        while (true) {
            Token first = all.get(i++);
            String[] form = null;
            for (String f : BEACH) {
                if (f.split(" ")[0].equals(first.text)) {
                    form = f.split(" ");
                }
            }
            if (form == null || lines.size() == 14 || first.text.equals("person") && people == 6) {
                throw new Wrong(first.at);
            }
            people += first.text.equals("person") ? 1 : 0;
            List<Integer> numbers = new ArrayList<>();
            for (int k = 1; k < form.length; k++) {
                Token t = all.get(i++);
                if (form[k].indexOf('-') < 0) {
                    if (!t.text.equals(form[k])) {
                        throw new Wrong(t.at);
                    }
                } else {
                    String[] bounds = form[k].split("-");
                    numbers.add(number(t, Integer.parseInt(bounds[0]), Integer.parseInt(bounds[1])));
                }
            }
            words.add(first.text);
            lines.add(numbers);
            Token last = all.get(i++);
            if (last.kind == '.') {
                return lines;
            }
            if (last.kind != ';') {
                throw new Wrong(last.at);
            }
        }
    }

    private static int number(Token t, int least, int most) throws Wrong {
        if (t.kind != '0' || t.text.length() > 3) {
            throw new Wrong(t.at);
        }
        int n = Integer.parseInt(t.text);
        if (n < least || n > most) {
            throw new Wrong(t.at);
        }
        return n;
    }

    private static final List<String> FACTS = List.of("move", "leg", "other", "thin", "calm", "water");

    private static List<List<Token>> readLaw(String text) throws Wrong {
        List<List<Token>> lines = new ArrayList<>();
        List<Token> line = new ArrayList<>();
        String open = "";
        String want = "kind";
        List<Token> all = tokens(text);
        if (all.get(0).kind == '.') {
            return lines;
        }
        for (Token t : all) {
            String x = t.text;
            boolean ends = t.kind == '.' || t.kind == ';';
            switch (want) {
                case "kind":
                    if (!List.of("up", "down", "stir", "settle").contains(x) || lines.size() == 12) {
                        throw new Wrong(t.at);
                    }
                    want = "amount";
                    break;
                case "amount":
                    number(t, 0, 9);
                    want = "if";
                    break;
                case "if":
                    if (!ends && !x.equals("if")) {
                        throw new Wrong(t.at);
                    }
                    want = ends ? "kind" : "atom";
                    break;
                case "atom":
                    if (x.equals("not") || x.equals("(")) {
                        if (open.length() == 6) {
                            throw new Wrong(t.at);
                        }
                        open += x.charAt(0);
                    } else if (x.equals("lying")) {
                        open = closeNots(open);
                        want = "behind";
                    } else {
                        part(t);
                        want = "left";
                    }
                    break;
                case "left":
                    if (!x.equals("+") && !x.equals("<") && !x.equals(">")) {
                        throw new Wrong(t.at);
                    }
                    want = x.equals("+") ? "leftpart" : "rightpart";
                    break;
                case "leftpart":
                    part(t);
                    want = "left";
                    break;
                case "rightpart":
                    part(t);
                    want = "right";
                    break;
                default:
                    if (want.equals("right") && x.equals("+")) {
                        want = "rightpart";
                        break;
                    }
                    if (want.equals("right")) {
                        open = closeNots(open);
                    }
                    if (x.equals("and") || x.equals("or")) {
                        want = "atom";
                    } else if (x.equals(")") && open.endsWith("(")) {
                        open = closeNots(open.substring(0, open.length() - 1));
                        want = "behind";
                    } else if (ends && open.isEmpty()) {
                        want = "kind";
                    } else {
                        throw new Wrong(t.at);
                    }
            }
            if (ends) {
                line.add(t);
                lines.add(line);
                line = new ArrayList<>();
            } else {
                line.add(t);
            }
        }
        return lines;
    }

    private static void part(Token t) throws Wrong {
        if (!FACTS.contains(t.text)) {
            number(t, 0, 999);
        }
    }

    private static String closeNots(String open) {
        String left = open;
        while (left.endsWith("n")) {
            left = left.substring(0, left.length() - 1);
        }
        return left;
    }

    // ---- the law, read anew each time

    private int at;

    private boolean any(List<Token> line, Map<String, Integer> facts) {
        boolean holds = all(line, facts);
        while (line.get(at).text.equals("or")) {
            at++;
            holds = all(line, facts) | holds;
        }
        return holds;
    }

    private boolean all(List<Token> line, Map<String, Integer> facts) {
        boolean holds = atom(line, facts);
        while (line.get(at).text.equals("and")) {
            at++;
            holds = atom(line, facts) & holds;
        }
        return holds;
    }

    private boolean atom(List<Token> line, Map<String, Integer> facts) {
        String x = line.get(at).text;
        if (x.equals("not")) {
            at++;
            return !atom(line, facts);
        }
        if (x.equals("(")) {
            at++;
            boolean holds = any(line, facts);
            at++;
            return holds;
        }
        if (x.equals("lying")) {
            at++;
            return facts.get("lying") == 1;
        }
        int left = sum(line, facts);
        boolean less = line.get(at++).text.equals("<");
        int right = sum(line, facts);
        return less ? left < right : left > right;
    }

    private int sum(List<Token> line, Map<String, Integer> facts) {
        int sum = 0;
        while (true) {
            Token t = line.get(at++);
            sum += t.kind == '0' ? Integer.parseInt(t.text) : facts.get(t.text);
            if (!line.get(at).text.equals("+")) {
                return sum;
            }
            at++;
        }
    }

    private int lawSum(String kind, Map<String, Integer> facts) {
        int sum = 0;
        if (s.law != null) {
            for (List<Token> line : s.law) {
                if (line.get(0).text.equals(kind)) {
                    at = 3;
                    if (line.get(2).text.equals("if") ? any(line, facts) : true) {
                        sum += Integer.parseInt(line.get(1).text);
                    }
                }
            }
        }
        return sum;
    }

    private Stand after(Stand b, int move, int leg, int calm, int water) {
        boolean none = move >= 5;
        int first = none || leg == 0 ? b.a : b.b;
        int second = none || leg == 0 ? b.b : b.a;
        Map<String, Integer> facts = new HashMap<>();
        facts.put("move", move);
        facts.put("leg", first);
        facts.put("other", second);
        facts.put("thin", b.thin);
        facts.put("calm", calm);
        facts.put("water", water);
        facts.put("lying", b.lying ? 1 : 0);
        int up = s.moves[move][0] + lawSum("up", facts);
        int down = s.moves[move][1] + lawSum("down", facts);
        int thin = b.thin + s.moves[move][2] + lawSum("stir", facts) - lawSum("settle", facts);
        first = Math.max(0, first - up);
        if (none) {
            second = Math.max(0, second - up);
            first = Math.min(9, first + down);
        }
        second = Math.min(9, second + down);
        boolean lying = move == 6 || b.lying && move != 0 && move != 3 && move != 4;
        thin = Math.max(0, Math.min(5, thin));
        return none || leg == 0 ? new Stand(first, second, thin, lying) : new Stand(second, first, thin, lying);
    }

    // ---- acts

    private void made(State on, int move, int leg, boolean log) {
        int minute = on.minute;
        on.stand(after(on.stand(), move, leg, on.calm, on.water));
        on.minute += s.moves[move][3];
        int draw = on.draw();
        if (draw % 100 < on.slip && !on.out()) {
            on.legs[0] = Math.min(9, on.legs[0] + 1);
            on.legs[1] = Math.min(9, on.legs[1] + 1);
        }
        if (log) {
            note(minute, move, move > 4 ? 2 : leg);
        }
    }

    private void note(int minute, int move, int leg) {
        s.log.add(new Row(minute, move, leg, s.legs[0], s.legs[1]));
        if (s.log.size() > 60) {
            s.log.remove(0);
        }
    }

    private static Stand pulled(Stand b, int force) {
        int by = force - (int) Math.floor((5 - b.thin) / 2.0);
        if (!b.lying) {
            by -= 5;
        }
        by = by < 0 ? 0 : by;
        return new Stand(b.a < by ? 0 : b.a - by, b.b < by ? 0 : b.b - by, b.thin, b.lying);
    }

    private void remember() {
        undos.addLast(s.copy());
        if (undos.size() > 12) {
            undos.removeFirst();
        }
    }

    // ---- ways

    private static List<Stand> allStands() {
        List<Stand> all = new ArrayList<>();
        for (int i = 0; i < 1200; i++) {
            all.add(new Stand(i / 120, i / 12 % 10, i / 2 % 6, i % 2 == 1));
        }
        return all;
    }

    private static final List<Stand> STANDS = allStands();

    private static int index(Stand b) {
        return b.a * 120 + b.b * 12 + b.thin * 2 + (b.lying ? 1 : 0);
    }

    private final Map<String, int[][]> tables = new HashMap<>();
    private int tableCalls;

    private int[][] table(int calm, int water) {
        String key = Arrays.deepToString(s.moves) + s.law + "/" + calm + "/" + water;
        int[][] table = tables.get(key);
        if (table == null) {
            table = new int[1200][14];
            for (int i = 0; i < 1200; i++) {
                for (int step = 0; step < 14; step++) {
                    table[i][step] = step == 11 || step == 13 ? NONE
                        : index(after(STANDS.get(i), step / 2, step % 2, calm, water));
                }
            }
            if (tableCalls++ % 20 == 0) {
                tables.clear();
            }
            tables.put(key, table);
        }
        return table;
    }

    private int[] minutesLeft(int set, int calm, int water) {
        int[][] table = table(calm, water);
        int[] left = new int[1200];
        for (int i = 0; i < 1200; i++) {
            left[i] = STANDS.get(i).out() ? 0 : 1000000;
        }
        boolean changed = true;
        while (changed) {
            changed = false;
            for (int i = 0; i < 1200; i++) {
                for (int step = 0; step < 14 && !STANDS.get(i).out(); step++) {
                    if ((set >> step / 2 & 1) == 1 && table[i][step] != NONE) {
                        int by = s.moves[step / 2][3] + left[table[i][step]];
                        if (by < left[i]) {
                            left[i] = by;
                            changed = true;
                        }
                    }
                }
            }
        }
        for (int i = 0; i < 1200; i++) {
            left[i] = left[i] >= 1000000 ? NONE : left[i];
        }
        return left;
    }

    private int minutesLeft(Stand b, int set) {
        return minutesLeft(set & 127, s.calm, s.water)[index(b)];
    }

    private int[] minutesTo(Stand from) {
        int[][] table = table(s.calm, s.water);
        int[] to = new int[1200];
        Arrays.fill(to, NONE);
        PriorityQueue<int[]> queue = new PriorityQueue<>((x, y) -> Integer.compare(x[0], y[0]));
        queue.add(new int[] {0, index(from), 0});
        int home = NONE;
        while (!queue.isEmpty()) {
            int[] next = queue.remove();
            if (next[2] > 0 && next[1] == index(from) && home == NONE) {
                home = next[0];
            }
            if (to[next[1]] != NONE) {
                continue;
            }
            to[next[1]] = next[0];
            for (int step = 0; step < 14 && !STANDS.get(next[1]).out(); step++) {
                if (table[next[1]][step] != NONE) {
                    queue.add(new int[] {next[0] + s.moves[step / 2][3], table[next[1]][step], 1});
                }
            }
        }
        int[] withHome = Arrays.copyOf(to, 1201);
        withHome[1200] = home;
        return withHome;
    }

    // ---- the shore

    private static boolean beside(int a, int b) {
        return distance(a, b) == 1;
    }

    private static int distance(int a, int b) {
        return Math.abs(a % 8 - b % 8) + Math.abs(a / 8 - b / 8);
    }

    private int bears(int cell) {
        return s.bears[cell / 8][cell % 8];
    }

    private int[] steps(int from, int weight) {
        int[] steps = new int[64];
        Arrays.fill(steps, NONE);
        steps[from] = 0;
        ArrayDeque<Integer> queue = new ArrayDeque<>();
        queue.add(from);
        while (!queue.isEmpty()) {
            int cell = queue.remove();
            for (int next = 0; next < 64; next++) {
                if (beside(cell, next) && steps[next] == NONE && bears(next) >= weight) {
                    steps[next] = steps[cell] + 1;
                    queue.add(next);
                }
            }
        }
        return steps;
    }

    private int boarded(Person p) {
        int hole = s.holeY * 8 + s.holeX;
        int[] cost = new int[64];
        Arrays.fill(cost, 1000);
        cost[p.cell] = 0;
        boolean changed = true;
        while (changed) {
            changed = false;
            for (int cell = 0; cell < 64; cell++) {
                for (int next = 0; next < 64; next++) {
                    if (beside(cell, next) && next != hole) {
                        int by = bears(next) >= p.weight ? 0 : Math.min(9, bears(next) + 3) >= p.weight ? 1 : 1000;
                        if (cost[cell] + by < cost[next]) {
                            cost[next] = cost[cell] + by;
                            changed = true;
                        }
                    }
                }
            }
        }
        int least = 1000;
        for (int cell = 0; cell < 64; cell++) {
            if (beside(cell, hole)) {
                least = Math.min(least, cost[cell]);
            }
        }
        return least > s.boards ? NONE : least;
    }

    private int place(int person, long taken) {
        if (person == s.people.size()) {
            return 0;
        }
        int most = place(person + 1, taken);
        int strong = NONE;
        // Of cells that bear the same only one is tried, as they are alike.
        for (int bear = 0; bear <= 9; bear++) {
            strong = NONE;
            for (int cell = 0; cell < 64; cell++) {
                int d = distance(cell, s.holeY * 8 + s.holeX);
                if ((d == 1 || d == 2) && bears(cell) == bear && (taken >> cell & 1) == 0) {
                    strong = cell;
                }
            }
            if (strong != NONE && bear >= s.people.get(person).weight) {
                most = Math.max(most, 1 + place(person + 1, taken | 1L << strong));
            }
        }
        return most;
    }

    // ---- the face

    private static void index(boolean ok) {
        if (!ok) {
            throw new IndexOutOfBoundsException();
        }
    }

    private static void argument(boolean ok) {
        if (!ok) {
            throw new IllegalArgumentException();
        }
    }

    private static void state(boolean ok) {
        if (!ok) {
            throw new IllegalStateException();
        }
    }

    private static void element(boolean ok) {
        if (!ok) {
            throw new NoSuchElementException();
        }
    }

    private static boolean in(int n, int least, int most) {
        return least <= n && n <= most;
    }

    public int feed(int a, int b, int c, int d, int e) {
        if (tape.length() > 380) {
            return NONE;
        }
        for (int n : new int[] {a, b, c, d, e}) {
            tape += "" + (char) (n >>> 24) + (char) (n >>> 16 & 255) + (char) (n >>> 8 & 255) + (char) (n & 255);
        }
        return tape.length();
    }

    public boolean end(int n) {
        if (n < 0 || tape.length() < n) {
            return false;
        }
        tape = tape.substring(0, n);
        return true;
    }

    public int beach() {
        String text = tape;
        tape = "";
        List<String> words = new ArrayList<>();
        List<List<Integer>> lines;
        try {
            lines = readBeach(text, s.people.size(), words);
        } catch (Wrong w) {
            fault = w.at;
            throw new IllegalArgumentException();
        }
        fault = NONE;
        if (s.texts == 12) {
            throw new UnsupportedOperationException();
        }
        for (int i = 0; i < lines.size(); i++) {
            List<Integer> n = lines.get(i);
            switch (words.get(i)) {
                case "legs" -> s.legs = new int[] {n.get(0), n.get(1)};
                case "thin" -> s.thin = n.get(0);
                case "calm" -> s.calm = n.get(0);
                case "water" -> s.water = n.get(0);
                case "tide" -> s.tide = n.get(0);
                case "move" -> s.moves[n.get(0)] = new int[] {n.get(1), n.get(2), n.get(3), n.get(4)};
                case "slip" -> s.slip = n.get(0);
                case "bears" -> s.bears[n.get(1)][n.get(0)] = n.get(2);
                case "heap" -> s.heap[n.get(1)][n.get(0)] = true;
                case "shine" -> s.shine[n.get(1)][n.get(0)] = true;
                case "hole" -> {
                    s.holeX = n.get(0);
                    s.holeY = n.get(1);
                }
                case "person" -> s.people.add(new Person(n.get(0), n.get(2) * 8 + n.get(1)));
                default -> s.boards = n.get(0);
            }
        }
        undos.clear();
        return ++s.texts;
    }

    public int law() {
        String text = tape;
        tape = "";
        try {
            s.law = readLaw(text);
        } catch (Wrong w) {
            fault = w.at;
            throw new IllegalArgumentException();
        }
        fault = NONE;
        undos.clear();
        return s.law.size();
    }

    public int fault() {
        return fault;
    }

    public int move(int move, int what) {
        index(in(move, 0, 6));
        element(in(what, 0, 4));
        if (what < 4) {
            return s.moves[move][what];
        }
        int with = minutesLeft(s.stand(), 127);
        int without = minutesLeft(s.stand(), 127 - (1 << move));
        return with == NONE && without == NONE ? NONE : without == NONE ? -3 : without - with;
    }

    public int cell(int cell, int what) {
        index(in(cell, 0, 63));
        element(in(what, 0, 3));
        int bits = 0;
        for (int i = 0; i < s.people.size(); i++) {
            bits += s.people.get(i).cell == cell ? 1 << i : 0;
        }
        boolean heap = s.heap[cell / 8][cell % 8];
        boolean shine = s.shine[cell / 8][cell % 8];
        return new int[] {bears(cell), heap ? 1 : 0, shine ? 1 : 0, bits}[what];
    }

    public int person(int person, int what) {
        index(in(person, 0, s.people.size() - 1));
        element(in(what, 0, 3));
        Person p = s.people.get(person);
        int far = 0;
        int[] steps = steps(p.cell, p.weight);
        for (int cell = 0; cell < 64; cell++) {
            far = steps[cell] == NONE ? far : Math.max(far, distance(cell, p.cell));
        }
        return new int[] {p.weight, p.cell, boarded(p), far}[what];
    }

    public int moved(int move, int leg) {
        index(in(move, 0, 6) && in(leg, 0, 1));
        state(!s.out() && !s.drowned());
        remember();
        made(s, move, leg, true);
        return s.legs[0] + s.legs[1];
    }

    public int pull(int force) {
        argument(in(force, 1, 20));
        state(!s.out() && !s.drowned());
        remember();
        int minute = s.minute;
        s.stand(pulled(s.stand(), force));
        s.harm = Math.min(999, s.harm + (force > 8 ? force - 8 : 0));
        s.minute += 2;
        note(minute, 7, 2);
        return s.harm;
    }

    public int talk() {
        state(!s.drowned());
        remember();
        s.calm = Math.min(9, s.calm + 1);
        s.minute++;
        return s.calm;
    }

    public int pour() {
        state(!s.drowned());
        remember();
        s.water = Math.min(9, s.water + 1);
        s.minute++;
        return s.water;
    }

    public int walk(int person, int cell) {
        index(in(person, 0, s.people.size() - 1) && in(cell, 0, 63));
        state(beside(s.people.get(person).cell, cell));
        remember();
        s.people.set(person, new Person(s.people.get(person).weight, cell));
        return bears(cell);
    }

    public int board(int cell) {
        index(in(cell, 0, 63));
        state(s.boards > 0);
        remember();
        s.boards--;
        s.bears[cell / 8][cell % 8] = Math.min(9, bears(cell) + 3);
        return bears(cell);
    }

    private static int drawn(State on, Model model, int n, boolean log) {
        int made = 0;
        while (made < n && !on.out() && !on.drowned()) {
            int move = on.draw() % 7;
            int leg = on.draw() % 2;
            model.made(on, move, leg, log);
            made++;
        }
        return made;
    }

    public int moves(int n) {
        argument(in(n, 1, 60));
        remember();
        return drawn(s, this, n, true);
    }

    public int would(int move, int leg, int what) {
        index(in(move, 0, 6) && in(leg, 0, 1));
        element(in(what, 0, 3));
        Stand b = after(s.stand(), move, leg, s.calm, s.water);
        return new int[] {b.a, b.b, b.thin, b.lying ? 1 : 0}[what];
    }

    public int soonest(int moves) {
        return minutesLeft(s.stand(), moves);
    }

    public int best(int moves, int k) {
        int[] left = minutesLeft(moves & 127, s.calm, s.water);
        int[][] table = table(s.calm, s.water);
        int here = index(s.stand());
        if (k < 0 || left[here] == NONE) {
            return NONE;
        }
        List<Integer> row = new ArrayList<>();
        while (left[here] > 0) {
            int step = 0;
            while ((moves >> step / 2 & 1) == 0 || table[here][step] == NONE || left[table[here][step]] == NONE
                || left[table[here][step]] + s.moves[step / 2][3] != left[here]) {
                step++;
            }
            row.add(step);
            here = table[here][step];
        }
        return k < row.size() ? row.get(k) : NONE;
    }

    public int latest() {
        int minutes = minutesLeft(s.stand(), 127);
        return minutes == NONE ? NONE : Math.max(NONE, s.tide - minutes - 1);
    }

    public int worth(int what) {
        element(in(what, 0, 2));
        Stand b = s.stand();
        int is = minutesLeft(b, 127);
        int other = what == 0 ? minutesLeft(new Stand(b.a, b.b, b.thin, true), 127)
            : minutesLeft(127, Math.min(9, s.calm + (what == 1 ? 1 : 0)),
                Math.min(9, s.water + (what == 2 ? 1 : 0)))[index(b)];
        return is == NONE || other == NONE ? -99 : is - other;
    }

    public int stuck() {
        int[] left = minutesLeft(127, s.calm, s.water);
        int bits = 0;
        for (int thin = 0; thin < 6; thin++) {
            bits += left[index(new Stand(s.legs[0], s.legs[1], thin, s.lying))] == NONE ? 1 << thin : 0;
        }
        return bits;
    }

    public int deepest() {
        int[] left = minutesLeft(127, s.calm, s.water);
        int deepest = 0;
        for (int d = 0; d < 10; d++) {
            deepest = left[index(new Stand(d, d, s.thin, s.lying))] == NONE ? deepest : d;
        }
        return deepest;
    }

    public int round() {
        return minutesTo(s.stand())[1200];
    }

    public int more() {
        int[] to = minutesTo(s.stand());
        int found = 0;
        for (int i = 0; i < 1200; i++) {
            found += to[i] == NONE ? 0 : 1;
        }
        return found;
    }

    public int run(int n, int force) {
        argument(in(n, 1, 200) && in(force, 1, 20));
        Stand b = s.stand();
        int minute = s.minute;
        if (b.out()) {
            return minute;
        }
        int left = n;
        while (left >= s.moves[5][3]) {
            left -= s.moves[5][3];
            minute += s.moves[5][3];
            b = after(b, 5, 0, s.calm, s.water);
            if (b.out()) {
                return minute;
            }
        }
        minute += left;
        for (int i = 0; i < 60; i++) {
            b = pulled(b, force);
            minute += 2;
            if (b.out()) {
                return minute;
            }
        }
        return NONE;
    }

    public boolean better(int n, int force) {
        int run = run(n, force);
        int alone = minutesLeft(s.stand(), 127);
        return run != NONE && (alone == NONE || run < s.minute + alone);
    }

    public int force(int n, boolean harm) {
        argument(in(n, 1, 30));
        for (int force = 1; force <= 20; force++) {
            Stand b = s.stand();
            int harms = 0;
            for (int i = 0; i < n && !b.out(); i++) {
                b = pulled(b, force);
                harms += Math.max(0, force - 8);
            }
            if (b.out()) {
                return harm ? harms : force;
            }
        }
        return NONE;
    }

    public int way(int person, int cell, boolean quick) {
        index(in(person, 0, s.people.size() - 1) && in(cell, 0, 63));
        Person p = s.people.get(person);
        return steps(p.cell, p.weight - (quick ? 1 : 0))[cell];
    }

    public long reach(int person, boolean quick) {
        index(in(person, 0, s.people.size() - 1));
        Person p = s.people.get(person);
        int[] steps = steps(p.cell, p.weight - (quick ? 1 : 0));
        long bits = 0;
        for (int cell = 0; cell < 64; cell++) {
            bits |= steps[cell] == NONE ? 0 : 1L << cell;
        }
        return bits;
    }

    public int edge(int y, int weight) {
        argument(in(y, 0, 7) && in(weight, 1, 9));
        int edge = NONE;
        for (int x = 0; x < 8; x++) {
            if (s.bears[y][x] < weight) {
                return edge;
            }
            edge = x;
        }
        return edge;
    }

    public int signs(int weight, boolean shine) {
        argument(in(weight, 1, 9));
        int all = 0;
        int some = 0;
        for (int cell = 0; cell < 64; cell++) {
            boolean h = s.heap[cell / 8][cell % 8];
            boolean i = s.shine[cell / 8][cell % 8];
            if (shine ? i && !h : h && !i) {
                all++;
                some += bears(cell) >= weight != shine ? 1 : 0;
            }
        }
        return all == 0 ? 0 : some * 100 / all;
    }

    public long sinking() {
        long bits = 0;
        for (int cell = 0; cell < 64; cell++) {
            int sum = 0;
            for (Person p : s.people) {
                sum += p.cell == cell ? p.weight : 0;
            }
            bits |= sum > bears(cell) ? 1L << cell : 0;
        }
        return bits;
    }

    public int holes(int cell, int deep) {
        index(in(cell, 0, 63));
        argument(in(deep, 1, 9));
        int bits = 0;
        for (int i = 0; i < s.people.size(); i++) {
            bits |= s.people.get(i).weight == bears(cell) + deep ? 1 << i : 0;
        }
        return bits;
    }

    public long rope(int weight) {
        argument(in(weight, 1, 9));
        long bits = 0;
        for (int cell = 0; cell < 64; cell++) {
            bits |= in(distance(cell, s.holeY * 8 + s.holeX), 1, 2) && bears(cell) >= weight ? 1L << cell : 0;
        }
        return bits;
    }

    public int placed() {
        return place(0, 0);
    }

    private State tried(int n, int seed) {
        State on = s.copy();
        on.seed = seed;
        drawn(on, this, n, false);
        return on;
    }

    public int trial(int n, boolean minute) {
        argument(in(n, 0, 40));
        State on = tried(n, s.seed);
        return minute ? on.minute : on.legs[0] + on.legs[1];
    }

    public int span(int n, boolean most) {
        argument(in(n, 0, 40));
        int least = 100;
        int greatest = -1;
        for (int seed = 1; seed <= 6; seed++) {
            State on = tried(n, seed);
            least = Math.min(least, on.legs[0] + on.legs[1]);
            greatest = Math.max(greatest, on.legs[0] + on.legs[1]);
        }
        return most ? greatest : least;
    }

    public int led(int leg, boolean move) {
        index(in(leg, 0, 2));
        int rows = 0;
        int latest = NONE;
        for (Row row : s.log) {
            if (row.leg == leg) {
                rows++;
                latest = row.move;
            }
        }
        return move ? latest : rows;
    }

    public int log(int ago, int what) {
        element(in(what, 0, 4));
        if (!in(ago, 0, s.log.size() - 1)) {
            return NONE;
        }
        Row row = s.log.get(s.log.size() - 1 - ago);
        return new int[] {row.minute, row.move, row.leg, row.a, row.b}[what];
    }

    public int seed(int n) {
        int before = s.seed;
        s.seed = n;
        return before;
    }

    public boolean undo() {
        if (undos.isEmpty()) {
            return false;
        }
        s = undos.removeLast();
        return true;
    }

    public void image() {
        image = s.copy();
    }

    public boolean back() {
        if (image == null) {
            return false;
        }
        s = image.copy();
        undos.clear();
        return true;
    }

    public int count(int what) {
        int[] all = {s.legs[0], s.legs[1], s.thin, s.lying ? 1 : 0, s.calm, s.water, s.harm, s.minute, s.tide,
            s.out() ? 1 : 0, s.drowned() ? 1 : 0, s.slip, s.holeY * 8 + s.holeX, s.people.size(), s.boards, s.texts,
            s.law == null ? NONE : s.law.size(), s.log.size(), undos.size()};
        return in(what, 0, 18) ? all[what] : NONE;
    }
}
