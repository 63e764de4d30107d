import java.util.ArrayList;
import java.util.List;

/** Edges of the ways OUT, of help that comes, and of pulling: promises 7 and 18 to 28. */
final class WayEdges {
    private static final String IAE = "IllegalArgumentException";
    private static final String NSEE = "NoSuchElementException";
    private static final int LEAST = Integer.MIN_VALUE;
    private static final int MOST = Integer.MAX_VALUE;
    private static final int ALL = 127;

    private WayEdges() {
    }

    static void look() {
        soonest();
        sets();
        best();
        bestFirst();
        latest();
        helps();
        first();
        worthOfTalk();
        worthNone();
        stuck();
        deepest();
        round();
        more();
        runBounds();
        runRests();
        runMinute();
        better();
        force();
    }

    private static void due(String what, Object want, Check.Call call) {
        Doc.due(what, want, call);
    }

    private static WaistSand lyingOne(String beach, String law) {
        WaistSand x = Check.told("legs 9 9");
        x.moved(6, 0);
        Check.beach(x, beach);
        Check.law(x, law);
        return x;
    }

    private static String move(int move, int up, int down, int takes) {
        return ";move " + move + " up " + up + " down " + down + " stirs 0 takes " + takes;
    }

    private static void soonest() {
        Doc.says("SOONEST with a set of MOVES: of all rows of these MOVES, each of either LEG, no SLIPS, TIDE not looked at, the fewest"
            + " MINUTES behind which one is OUT from the BODY as it is: how many (0, if one is); none.", 18);
        due("OUT", 0, () -> new WaistSand().soonest(ALL));
        due("OUT, without MOVES", 0, () -> new WaistSand().soonest(0));
        due("LEG 0", 1, () -> Check.told("legs 1 0" + move(1, 1, 0, 1)).soonest(ALL));
        due("LEG 1", 1, () -> Check.told("legs 0 1" + move(1, 1, 0, 1)).soonest(ALL));
        due("both", 2, () -> Check.told("legs 1 1" + move(1, 1, 0, 1)).soonest(ALL));
        due("no SLIPS", 2, () -> Check.told("slip 100;legs 1 1" + move(1, 1, 0, 1)).soonest(ALL));
        due("DROWNED", 2, () -> Check.told("tide 0;legs 1 1" + move(1, 1, 0, 1)).soonest(ALL));
        due("behind TIDE", 2, () -> Check.told("tide 1;legs 1 1" + move(1, 1, 0, 1)).soonest(ALL));
        due("18 of 30", 540, () -> Check.told("legs 9 9" + move(1, 1, 0, 30)).soonest(ALL));
        due("the fewest MINUTES, not MOVES", 9, () -> Check.told("legs 9 0" + move(1, 1, 0, 1) + move(2, 9, 0, 10)).soonest(ALL));
        due("as long", 9, () -> Check.told("legs 9 0" + move(1, 1, 0, 1) + move(2, 9, 0, 9)).soonest(ALL));
        due("sooner", 8, () -> Check.told("legs 9 0" + move(1, 1, 0, 1) + move(2, 9, 0, 8)).soonest(ALL));
        due("none", -1, () -> Check.told("legs 0 1").soonest(ALL));
        due("as much down as up", -1, () -> Check.told("legs 0 1" + move(1, 1, 1, 1)).soonest(ALL));
        due("9 is the deepest: 9 9, 0 9, 9 0", -1, () -> Check.told("legs 9 9" + move(1, 9, 9, 1)).soonest(ALL));
        due("from the BODY as it is", 1, () -> lyingOne("legs 1 0", "up 1 if lying and move<1").soonest(ALL));
        soonestAgain();
        soonestTwoWays();
        Doc.says("SOONEST; NONE.", 18);
        due("none", -1, () -> Check.told("legs 9 9").soonest(ALL));
    }

    /** Asked again behind whatever can change the answer: as all is then. */
    private static void soonestAgain() {
        WaistSand x = Check.told("legs 4 0;calm 1" + move(1, 1, 0, 3));
        due("by 1 each", 12, () -> x.soonest(ALL));
        x.image();
        Check.beach(x, "thin 1" + move(1, 2, 0, 3));
        due("a MOVE told anew", 6, () -> x.soonest(ALL));
        Check.law(x, "up 2 if calm<2");
        due("a law, by each MOVE of 1 MINUTE", 2, () -> x.soonest(ALL));
        x.talk();
        due("behind talk", 6, () -> x.soonest(ALL));
        x.undo();
        due("undone", 2, () -> x.soonest(ALL));
        Check.law(x, "up 2 if water>0");
        due("another law", 6, () -> x.soonest(ALL));
        x.pour();
        due("behind water", 2, () -> x.soonest(ALL));
        Check.law(x, "");
        due("no LINE of a law", 6, () -> x.soonest(ALL));
        x.moved(1, 0);
        due("behind a MOVE", 3, () -> x.soonest(ALL));
        x.back();
        due("gone back", 12, () -> x.soonest(ALL));
    }

    /**
     * From 2 4 one MOVE of 10 MINUTES leads to 0 4 and to 2 0. Two of 3 lead to 0 4 sooner, but there the way ends;
     * from 2 0 two of 3 lead OUT.
     */
    private static void soonestTwoWays() {
        WaistSand x = Check.told("legs 2 4" + move(0, 0, 0, 10) + move(1, 0, 0, 3),
            "up 4 if move<1 and (leg<3 or other>1);up 1 if move>0 and move<2 and leg<3");
        due("by the one that is not come to sooner", List.of(16, 16), () -> List.of(x.soonest(3), x.soonest(ALL)));
        due("its row", List.of(1, 2, 2, -1), () -> row(x, ALL, 4));
        due("all but it", -1, () -> x.soonest(ALL & ~1));
        // LEG 0 at 2, 1, 0 with LEG 1 at 4, and at 2, 1, 0 with LEG 1 at 0, each standing and lying.
        due("each state once", 12, x::more);
    }

    private static void sets() {
        Doc.says("Sets are bits; of none they count for nothing.", 18, 19);
        for (int only = 0; only < 7; only++) {
            WaistSand x = Check.told("legs 1 1" + move(only, 1, 0, 3));
            int bit = 1 << only;
            int takes = only < 5 ? 6 : 3;
            due("MOVE " + only + " alone", takes, () -> x.soonest(bit));
            due("MOVE " + only + " among all", takes, () -> x.soonest(ALL));
            due("all but MOVE " + only, -1, () -> x.soonest(ALL & ~bit));
            due("its row", 2 * only, () -> x.best(bit, 0));
            due("no row without", -1, () -> x.best(ALL & ~bit, 0));
            due("with bits of none", takes, () -> x.soonest(bit | 128 | LEAST));
        }
        WaistSand x = Check.told("legs 1 1" + move(1, 1, 0, 3));
        for (int none : new int[] {0, 128, 256, LEAST, -128, ~ALL}) {
            due("the set " + none, -1, () -> x.soonest(none));
            due("the set " + none + " has no row", -1, () -> x.best(none, 0));
        }
        for (int all : new int[] {-1, MOST, 255, ALL}) {
            due("the set " + all, 6, () -> x.soonest(all));
            due("the set " + all + ", its row", List.of(2, 3), () -> List.of(x.best(all, 0), x.best(all, 1)));
        }
    }

    private static List<Integer> row(WaistSand x, int set, int length) {
        List<Integer> found = new ArrayList<>();
        for (int k = 0; k < length; k++) {
            found.add(x.best(set, k));
        }
        return found;
    }

    private static void best() {
        Doc.says("the k-th of them (from 0 on); none.", 19);
        WaistSand x = Check.told("legs 9 9" + move(1, 1, 0, 30));
        due("LEG 0 first, LEG 1 then", List.of(2, 2, 2, 2, 2, 2, 2, 2, 2, 3, 3, 3, 3, 3, 3, 3, 3, 3, -1), () -> row(x, ALL, 19));
        for (int k : new int[] {18, 19, 1199, 1200, MOST, -1, LEAST}) {
            due("k " + k, -1, () -> x.best(ALL, k));
        }
        Doc.says("THE BEST ROW; NONE.", 19);
        due("OUT there is no MOVE", -1, () -> new WaistSand().best(ALL, 0));
        due("no way", -1, () -> Check.told("legs 1 1").best(ALL, 0));
        due("no way by that set", -1, () -> x.best(ALL & ~2, 0));
        due("DROWNED is not looked at", 2, () -> Check.told("tide 0;legs 1 1" + move(1, 1, 0, 1)).best(ALL, 0));
    }

    private static void bestFirst() {
        Doc.says("THE BEST ROW with a set: of the rows that take just so long the one whose first MOVE is the least"
            + " (2 times MOVE and LEG; LEG 0 for those of none), then the second one, ..:", 19);
        WaistSand two = Check.told("legs 2 0" + move(1, 1, 0, 1) + move(3, 1, 0, 1));
        due("the lesser MOVE", List.of(2, 2, -1), () -> row(two, ALL, 3));
        due("the other one alone", List.of(6, 6, -1), () -> row(two, 8, 3));
        WaistSand rests = Check.told("legs 1 1", "up 1 if move>4");
        due("resting", List.of(10, -1), () -> row(rests, ALL, 2));
        due("lying back alone", List.of(12, -1), () -> row(rests, 64, 2));
        WaistSand shaken = Check.told("legs 0 1" + move(4, 1, 0, 1) + move(5, 1, 0, 1));
        due("9 is less than 10", List.of(9, -1), () -> row(shaken, ALL, 2));
        due("a lesser one that takes longer", List.of(8, -1), () -> row(Check.told("legs 1 0" + move(0, 1, 0, 2) + move(4, 1, 0, 1)), ALL, 2));
        due("one that takes as long", List.of(0, -1), () -> row(Check.told("legs 1 0" + move(0, 1, 0, 1) + move(4, 1, 0, 1)), ALL, 2));
        for (int takes = 5; takes <= 7; takes++) {
            WaistSand x = Check.told("legs 2 0" + move(0, 1, 0, 3) + move(1, 2, 0, takes));
            due("6 by two, or " + takes + " by one", takes < 6 ? List.of(2, -1, -1) : List.of(0, 0, -1), () -> row(x, ALL, 3));
        }
        WaistSand ends = Check.told("legs 1 1" + move(0, 1, 0, 3) + move(5, 1, 0, 3));
        due("one that takes just so long and leads not OUT is none", List.of(10, -1), () -> row(ends, ALL, 2));
        WaistSand later = Check.told("legs 2 1" + move(0, 1, 0, 2) + move(1, 1, 0, 2) + move(2, 2, 0, 3));
        due("a later one may be greater: 4 first is 5 MINUTES", List.of(1, 4, -1), () -> row(later, ALL, 3));
        WaistSand state = Check.told("legs 3 0" + move(1, 1, 0, 1) + move(6, 0, 0, 1), "up 1 if lying");
        due("1 by 1, or lying back and by 2", List.of(2, 2, 2, -1), () -> row(state, ALL, 4));
        WaistSand deeper = Check.told("legs 4 0" + move(1, 1, 0, 1) + move(6, 0, 0, 1), "up 1 if lying");
        due("lying back first is just sooner", List.of(12, 2, 2, -1), () -> row(deeper, ALL, 4));
    }

    private static void latest() {
        Doc.says("LATEST: the last MINUTE at which one can begin with all MOVES and be OUT ahead of TIDE (TIDE less SOONEST less 1);"
            + " none (also below 0).", 20);
        for (int tide = 2; tide <= 6; tide++) {
            int t = tide;
            due("TIDE " + t + ", SOONEST 4", t < 5 ? -1 : t - 5, () -> Check.told("legs 1 1;tide " + t + move(1, 1, 0, 2)).latest());
        }
        due("TIDE 0", -1, () -> Check.told("legs 1 1;tide 0" + move(1, 1, 0, 2)).latest());
        due("TIDE 999", 994, () -> Check.told("legs 1 1;tide 999" + move(1, 1, 0, 2)).latest());
        due("never OUT", -1, () -> Check.told("legs 1 1;tide 999").latest());
        due("OUT, TIDE 999", 998, () -> new WaistSand().latest());
        due("OUT, TIDE 1", 0, () -> Check.told("tide 1").latest());
        due("OUT, TIDE 0", -1, () -> Check.told("tide 0").latest());
        WaistSand late = Check.told("legs 1 1;tide 6" + move(1, 1, 0, 2));
        late.talk();
        late.talk();
        due("whatever MINUTE is", 1, late::latest);
        Doc.says("LATEST; NONE.", 20);
        due("none", -1, () -> Check.told("legs 1 1;tide 4" + move(1, 1, 0, 2)).latest());
    }

    private static void helps() {
        Doc.says("HELPS: how many MINUTES more SOONEST takes with all MOVES but a told one than with all; -3, if it never comes OUT without"
            + " that one but does with it; none, if it does with neither.", 7);
        for (int only = 0; only < 7; only++) {
            for (int asked = 0; asked < 7; asked++) {
                int a = asked;
                WaistSand x = Check.told("legs 1 1" + move(only, 1, 0, 3));
                due("MOVE " + a + " where " + only + " alone helps", a == only ? -3 : 0, () -> x.move(a, 4));
                due("MOVE " + a + " where none does", -1, () -> Check.told("legs 1 1").move(a, 4));
                due("MOVE " + a + ", OUT", 0, () -> new WaistSand().move(a, 4));
            }
        }
        for (int takes = 4; takes <= 6; takes++) {
            WaistSand x = Check.told("legs 1 0" + move(2, 1, 0, 5) + move(3, 1, 0, takes));
            int t = takes;
            due("5, or " + t, List.of(Math.max(0, t - 5), Math.max(0, 5 - t)), () -> List.of(x.move(2, 4), x.move(3, 4)));
        }
        due("3 MINUTES more are no -3", 3, () -> Check.told("legs 1 0" + move(2, 1, 0, 1) + move(3, 1, 0, 4)).move(2, 4));
        due("DROWNED is not looked at", -3, () -> Check.told("tide 0;legs 1 0" + move(2, 1, 0, 1)).move(2, 4));
    }

    private static void first() {
        Doc.says("FIRST: SOONEST (all MOVES) as it is less SOONEST if one lay already;", 21);
        String law = "up 3 if lying and move>4;up 1 if move>4";
        due("2 MINUTES, or 1", 1, () -> Check.told("legs 3 3", law).worth(0));
        due("one lies already", 0, () -> lyingOne("legs 3 3", law).worth(0));
        due("OUT", 0, () -> new WaistSand().worth(0));
        due("it makes no difference", 0, () -> Check.told("legs 3 3", "up 1").worth(0));
    }

    private static void worthOfTalk() {
        Doc.says("WORTH of talk: as it is less with CALM 1 more (9 at most); of water: less with WATER 1 more (9 at most);", 21);
        String[] facts = {"calm", "water"};
        for (int what = 1; what <= 2; what++) {
            String fact = facts[what - 1];
            int w = what;
            for (int level = 5; level <= 9; level++) {
                int l = level;
                WaistSand x = Check.told("legs 4 0;" + fact + " " + l, "up 1;up 1 if " + fact + ">7");
                due(fact + " " + l + ": 4 MINUTES up to 7, 2 then", l == 7 ? 2 : 0, () -> x.worth(w));
                due("nothing is done", List.of(what == 1 ? l : 0, what == 2 ? l : 0, 0, 0), () -> List.of(x.count(4), x.count(5), x.count(7),
                    x.count(18)));
            }
            String asked = "up 1;up 1 if not lying and lying;up 1 if not(leg+5<3 or thin+thin>7) and (lying or 2<1 or " + fact + "+1>8)";
            WaistSand behind = Check.told("legs 4 0;" + fact + " 7", asked);
            due("asked for behind much else: 3 MINUTES by lying back, 2 then", 1, () -> behind.worth(w));
            for (String sum : new String[] {"7", "thin+7", "7+other+thin", "thin+move+7+other"}) {
                String set = "up 1;up 1 if " + sum + "<" + fact + ";up 1 if move+" + sum + "<" + fact;
                due(sum + "<" + fact + ": 4 MINUTES, 2 by jerks then", 2, () -> Check.told("legs 4 0;" + fact + " 7", set).worth(w));
                String turned = "up 1;up 2 if " + fact + ">move+" + sum;
                due(fact + ">move+" + sum + ": 4 MINUTES, 2 by jerks then", 2, () -> Check.told("legs 4 0;" + fact + " 7", turned).worth(w));
            }
            for (String law : new String[] {"", "up 1", "up 1 if leg<9", "up 1 if 0<1", "up 1 if 0<1 or not lying", "up 1 if not(lying and 1<0)",
                "up 1 if leg+other>thin", "up 1 if 1>0;up 0 if 1<0", "up 1 if not " + fact + ">9"}) {
                WaistSand unlike = Check.told("legs 4 0;" + fact + " 7", law);
                due(fact + " makes no difference to '" + law + "'", law.isEmpty() ? -99 : 0, () -> unlike.worth(w));
            }
            WaistSand most = Check.told("legs 4 0;" + fact + " 8", "up 1;up 3 if " + fact + ">8");
            due(fact + " 8: 4 MINUTES, 1 then", 3, () -> most.worth(w));
            Check.beach(most, fact + " 9");
            due(fact + " 9 is the most", 0, () -> most.worth(w));
            due("OUT", 0, () -> new WaistSand().worth(w));
        }
        WaistSand both = Check.told("legs 4 0;calm 1;water 1", "up 1;up 1 if calm>1;up 3 if water>1");
        due("each alone", List.of(2, 3), () -> List.of(both.worth(1), both.worth(2)));
        WaistSand unlike = Check.told("legs 4 0;calm 2;water 5", "up 1;up 1 if calm>2 and water>4;up 3 if water>5 and calm<3");
        due("the other one as it is", List.of(2, 3), () -> List.of(unlike.worth(1), unlike.worth(2)));
        Doc.says("each may be below 0;", 21);
        due("lying first", -1, () -> Check.told("legs 3 0", "up 3 if not lying;up 1 if lying").worth(0));
        due("talk", -2, () -> Check.told("legs 3 0", "up 2 if calm<1;up 1").worth(1));
        due("water", -8, () -> Check.told("legs 9 0", "up 8 if water<1;up 1").worth(2));
    }

    private static void worthNone() {
        Doc.says("-99, if one of both is none.", 21);
        due("lying first: none as it is", -99, () -> Check.told("legs 1 1" + move(6, 0, 9, 1), "up 9 if lying and move<6 and leg<2").worth(0));
        due("lying first: none then", -99, () -> Check.told("legs 1 0", "up 1 if not lying and leg+other<2;down 9 if lying").worth(0));
        due("lying first: none in both", -99, () -> Check.told("legs 1 1").worth(0));
        due("talk: none as it is", -99, () -> Check.told("legs 1 1", "up 1 if calm>0").worth(1));
        due("talk: none then", -99, () -> Check.told("legs 1 1", "up 1 if calm<1").worth(1));
        due("talk: none in both", -99, () -> Check.told("legs 1 1").worth(1));
        due("water: none as it is", -99, () -> Check.told("legs 1 1", "up 1 if water>0").worth(2));
        due("water: none then", -99, () -> Check.told("legs 1 1", "up 1 if water<1").worth(2));
        due("water: none in both", -99, () -> Check.told("legs 1 1").worth(2));
        Doc.says("WORTH what 0 FIRST, 1 of talk, 2 of water; -99. NoSuchElementException: another what.", 21);
        for (int what : new int[] {-1, 3, LEAST, MOST}) {
            due("what " + what, NSEE, () -> new WaistSand().worth(what));
        }
    }

    private static void stuck() {
        Doc.says("STUCK: which THIN 0 to 5, all else being as it is, lead to no way OUT (all MOVES), as bits.", 22);
        due("all", 0b111111, () -> Check.told("legs 1 1").stuck());
        due("none", 0, () -> Check.told("legs 1 1", "up 1").stuck());
        due("OUT", 0, () -> new WaistSand().stuck());
        due("OUT, LEG 1 alone is not", 0b111111, () -> Check.told("legs 0 1").stuck());
        for (int thin = 0; thin <= 5; thin++) {
            int t = thin;
            String law = "up 1 if thin<" + (t + 1) + " and not thin<" + t;
            due("THIN " + t + " alone leads OUT", 0b111111 & ~(1 << t), () -> Check.told("legs 1 1;thin 2", law).stuck());
            due("up to THIN " + t, 0b111111 & ~((2 << t) - 1), () -> Check.told("legs 1 1;thin 5", "up 1 if thin<" + (t + 1)).stuck());
        }
        due("THIN that settles", 0b000011, () -> Check.told("legs 1 1", "up 1 if thin>1 and thin<3;settle 1 if thin>2").stuck());
        due("as one lies", 0b111111, () -> Check.told("legs 1 0", "up 1 if lying and move<1;down 9 if move>5").stuck());
        due("as one lies", 0, () -> lyingOne("legs 1 0", "up 1 if lying and move<1;down 9 if move>5").stuck());
        WaistSand x = Check.told("legs 1 1;thin 3");
        x.stuck();
        due("THIN stays", 3, () -> x.count(2));
    }

    private static void deepest() {
        Doc.says("DEEPEST: the greatest D 0 to 9 by which both LEGS at D, all else being as it is, have a way OUT.", 23);
        for (int depth = 0; depth <= 9; depth++) {
            int d = depth;
            String law = "up 1 if leg<" + (d + 1) + " and other<" + (d + 1);
            due("up to " + d, d, () -> Check.told("legs 3 3", law).deepest());
            String one = "up 9 if move>4 and leg<" + (d + 1) + " and not leg<" + d;
            due("at " + d + " alone", d, () -> Check.told("legs 3 3", one).deepest());
        }
        due("9 at once, 1 to 8 never", 9, () -> Check.told("legs 3 3", "up 9 if move>4 and leg>8").deepest());
        due("at 0 one is OUT", 0, () -> Check.told("legs 3 3").deepest());
        due("THIN as it is", 9, () -> Check.told("legs 3 3;thin 2", "up 1 if thin>1").deepest());
        due("THIN as it is", 0, () -> Check.told("legs 3 3;thin 1", "up 1 if thin>1").deepest());
        due("LYING as it is", 0, () -> Check.told("legs 3 3" + move(6, 0, 9, 1), "up 9 if lying and move<6 and leg<4").deepest());
        due("LYING as it is", 3, () -> lyingOne("legs 9 9" + move(6, 0, 9, 1), "up 9 if lying and move>4 and move<6 and leg<4").deepest());
        WaistSand x = Check.told("legs 3 4");
        x.deepest();
        due("DEPTHS stay", List.of(3, 4), () -> List.of(x.count(0), x.count(1)));
    }

    private static void round() {
        Doc.says("ROUND: the fewest MINUTES by a row of MOVES (one at least, all MOVES) that leads back to just the same DEPTHS, THIN and"
            + " LYING; none.", 24);
        due("one at least", 1, () -> Check.told("legs 1 1").round());
        due("OUT: nothing moves", -1, () -> new WaistSand().round());
        due("ever thinner", -1, () -> Check.told("legs 1 1", "stir 1").round());
        due("as thin as can be", 1, () -> Check.told("legs 1 1;thin 5", "stir 1").round());
        due("THIN, there and back", 2, () -> Check.told("legs 1 1", "settle 9 if thin>0;stir 1 if thin<1").round());
        due("THIN, there and back", 2, () -> Check.told("legs 1 1;thin 1", "settle 9 if thin>0;stir 1 if thin<1").round());
        due("THIN, from 2 never back", -1, () -> Check.told("legs 1 1;thin 2", "settle 9 if thin>0;stir 1 if thin<1").round());
        String others = "stir 1 if move<1 or move>1";
        due("DEPTHS, there and back", 8, () -> Check.told("legs 5 5" + move(1, 1, 1, 4), others).round());
        due("DEPTHS, 0 at least and 9 at most", 4, () -> Check.told("legs 0 9" + move(1, 1, 1, 4), others).round());
        due("DEPTHS, never back", -1, () -> Check.told("legs 5 5" + move(1, 1, 0, 4), others).round());
        due("a way back that leads OUT is none", -1, () -> Check.told("legs 1 0", "up 1;down 1 if leg+other<1;stir 1 if leg+other>0;"
            + "settle 1 if leg+other<1").round());
        for (int move = 0; move < 7; move++) {
            String alone = "stir 1 if move<" + move + " or move>" + move;
            WaistSand low = move == 6 ? lyingOne("legs 5 4", alone + " or leg<5") : Check.told("legs 5 4", alone + " or leg<5");
            due("by MOVE " + move + " of LEG 0 alone", 1, low::round);
            WaistSand high = move == 6 ? lyingOne("legs 4 5", alone + " or leg>4") : Check.told("legs 5 4", alone + " or leg>4");
            due("by MOVE " + move + " of LEG 1 alone", move == 5 ? -1 : 1, high::round);
        }
        StringBuilder takes = new StringBuilder("legs 4 4");
        for (int move = 0; move < 7; move++) {
            takes.append(move(move, 0, 0, move == 6 ? 3 : move == 4 ? 8 : 30));
        }
        WaistSand wide = Check.told("legs 9 9" + move(1, 1, 0, 1) + move(2, 0, 1, 1) + ";move 4 up 0 down 0 stirs 1 takes 1",
            "settle 1 if move>2 and move<4");
        due("among all states there are", List.of(1200, 1), () -> List.of(wide.more(), wide.round()));
        due("LYING: the least that does not lie back", 8, () -> Check.told(takes.toString()).round());
        due("LYING: lying back again", 3, () -> lyingOne(takes.toString(), "").round());
        due("stands, lies, stands", 11, () -> Check.told(takes.toString(), "stir 1 if not lying and move<6").round());
        WaistSand sooner = Check.told(takes.toString() + move(5, 9, 0, 2), "stir 1 if not lying and move<6");
        due("also if one can be OUT sooner", List.of(2, 11), () -> List.of(sooner.soonest(ALL), sooner.round()));
        due("DROWNED is not looked at", 1, () -> Check.told("legs 1 1;tide 0").round());
        Doc.says("ROUND; NONE.", 24);
        due("none", -1, () -> Check.told("legs 9 1", "up 1").round());
    }

    private static void more() {
        Doc.says("MORE: how many unlike such states (DEPTHS, THIN, LYING) can be come to by all MOVES (the one there is, too; nothing moves"
            + " from one that is OUT).", 25);
        due("OUT", 1, () -> new WaistSand().more());
        due("OUT, whatever would move", 1, () -> Check.told("legs 0 0", "down 1;stir 1").more());
        due("standing and lying", 2, () -> Check.told("legs 1 1").more());
        due("lying alone is left of it", 2, () -> lyingOne("legs 1 1", "").more());
        due("THIN 0 to 5 standing, 1 to 5 lying", 11, () -> Check.told("legs 1 1", "stir 1").more());
        due("THIN 4, 5 standing, 5 lying", 3, () -> Check.told("legs 1 1;thin 4", "stir 1").more());
        due("OUT counts, and ends it", 4, () -> Check.told("legs 0 1" + move(1, 1, 0, 1), "down 1 if leg+other<1").more());
        due("all of LEG 0 at 0 to 9, OUT too", 20, () -> Check.told("legs 9 0" + move(1, 1, 0, 1)).more());
        due("all DEPTHS, standing and lying", 200, () -> Check.told("legs 9 9" + move(1, 1, 0, 1)).more());
        due("all there are", 1200, () -> Check.told("legs 9 9" + move(1, 1, 0, 1) + move(2, 0, 1, 1)
            + ";move 4 up 0 down 0 stirs 1 takes 1", "settle 1 if move>2 and move<4").more());
        due("DROWNED is not looked at", 2, () -> Check.told("legs 1 1;tide 0").more());
    }

    private static void runBounds() {
        Doc.says("RUN: help comes behind N MINUTES (1 to 200) and pulls with a FORCE (1 to 20) again and again;", 26);
        for (int n : new int[] {1, 2, 199, 200}) {
            due("N " + n, n + 2, () -> Check.told("legs 9 9").run(n, 20));
        }
        for (int force : new int[] {1, 2, 7}) {
            due("FORCE " + force + " lifts nothing", -1, () -> Check.told("legs 1 1").run(1, force));
        }
        due("FORCE 8 lifts by 1, again and again", 1 + 18, () -> Check.told("legs 9 3").run(1, 8));
        due("FORCE 9 lifts by 2", 1 + 10, () -> Check.told("legs 3 9").run(1, 9));
        due("FORCE 15 lifts by 8", 1 + 4, () -> Check.told("legs 9 9").run(1, 15));
        due("FORCE 16 lifts by 9", 1 + 2, () -> Check.told("legs 9 9").run(1, 16));
        due("FORCE 1, lying in thin sand since MINUTE 1", 1 + 1 + 18, () -> lyingOne("legs 9 9;thin 4", "").run(1, 1));
        Doc.says("RUN; NONE. IllegalArgumentException: N or FORCE are none.", 26);
        for (int no : new int[] {0, 201, -1, LEAST, MOST}) {
            due("N " + no, IAE, () -> Check.told("legs 9 9").run(no, 20));
            due("N " + no + ", OUT", IAE, () -> new WaistSand().run(no, 20));
        }
        for (int no : new int[] {0, 21, -1, LEAST, MOST}) {
            due("FORCE " + no, IAE, () -> Check.told("legs 9 9").run(1, no));
            due("FORCE " + no + ", OUT", IAE, () -> new WaistSand().run(1, no));
        }
        due("none", -1, () -> Check.told("legs 9 9").run(200, 7));
    }

    private static void runRests() {
        Doc.says("till then one RESTS (MOVE 5, no SLIPS) as often as it goes into these MINUTES:", 26);
        String rest = "legs 9 9;slip 100" + move(5, 1, 0, 30);
        due("29: not once, 9 PULLS", 29 + 18, () -> Check.told(rest).run(29, 8));
        due("30: once, 8 PULLS", 30 + 16, () -> Check.told(rest).run(30, 8));
        due("31: once", 31 + 16, () -> Check.told(rest).run(31, 8));
        due("59: once", 59 + 16, () -> Check.told(rest).run(59, 8));
        due("60: twice", 60 + 14, () -> Check.told(rest).run(60, 8));
        due("200: six times", 200 + 6, () -> Check.told(rest).run(200, 8));
        due("deeper by resting", 2 + 18, () -> Check.told("legs 1 1" + move(5, 0, 9, 2)).run(2, 8));
        due("not yet deeper", 1 + 2, () -> Check.told("legs 1 1" + move(5, 0, 9, 2)).run(1, 8));
        due("THIN 4: 8 less 0 less 5", 1 + 6, () -> Check.told("legs 9 9;thin 4").run(1, 8));
        due("THIN settles to 3: 8 less 1 less 5", 1 + 10, () -> Check.told("legs 9 9;thin 4", "settle 1").run(1, 8));
        due("THIN settles to 1: 8 less 2 less 5", 3 + 18, () -> Check.told("legs 9 9;thin 4", "settle 1").run(3, 8));
        due("resting one lies on since MINUTE 1", 1 + 1 + 4, () -> lyingOne("legs 9 9", "").run(1, 8));
        String facts = "up 1 if calm>2 and calm<4;up 2 if water>5 and water<7";
        due("by CALM and WATER as they are", 2 + 6, () -> Check.told("legs 9 9;calm 3;water 6", facts).run(2, 8));
        due("by CALM alone", 2 + 14, () -> Check.told("legs 9 9;calm 3;water 3", facts).run(2, 8));
        due("by WATER alone", 2 + 10, () -> Check.told("legs 9 9;calm 6;water 6", facts).run(2, 8));
        WaistSand x = Check.told(rest);
        x.run(200, 8);
        due("nothing stays", List.of(9, 9, 0, 0, 0, 0), () -> List.of(x.count(0), x.count(1), x.count(6), x.count(7), x.count(17), x.count(18)));
        due("nothing is drawn", 1, () -> x.seed(1));
    }

    private static void runMinute() {
        Doc.says("the MINUTE at which one is OUT (TIDE not looked at; by resting, or by a PULL, each 2 MINUTES from then on;"
            + " 60 PULLS at most; it may be above 9999); none.", 26);
        String rest = "legs 3 2" + move(5, 1, 0, 4);
        due("11: a PULL is left to do", 13, () -> Check.told(rest).run(11, 20));
        due("12: OUT by the third rest", 12, () -> Check.told(rest).run(12, 20));
        due("13: as soon", 12, () -> Check.told(rest).run(13, 20));
        due("200: as soon, whatever the FORCE", 12, () -> Check.told(rest).run(200, 1));
        due("11: no PULL lifts", -1, () -> Check.told(rest).run(11, 7));
        WaistSand x = Check.told(rest + ";tide 3");
        x.talk();
        x.talk();
        due("from MINUTE 2 on, by resting", 14, () -> x.run(12, 20));
        due("from MINUTE 2 on, by a PULL", 15, () -> x.run(11, 20));
        x.pour();
        due("DROWNED", List.of(1, 15), () -> List.of(x.count(10), x.run(12, 20)));
        WaistSand out = new WaistSand();
        due("OUT at MINUTE 0", 0, () -> out.run(200, 1));
        out.talk();
        due("OUT at MINUTE 1", 1, () -> out.run(1, 20));
        // A FORCE that lifts at all needs 9 PULLS at most, and MINUTE stays below 1600: 60 and 9999 are not come to.
        due("the most PULLS there are", 200 + 18, () -> Check.told("legs 9 9").run(200, 8));
    }

    private static void better() {
        Doc.says("BETTER: whether RUN is sooner than MINUTE and SOONEST with all MOVES (also if there is no way without).", 27);
        String beach = "legs 9 4" + move(1, 1, 0, 3);
        // SOONEST is 39.
        for (int minute = 0; minute <= 2; minute++) {
            WaistSand x = Check.told(beach);
            for (int i = 0; i < minute; i++) {
                x.talk();
            }
            due("36 and 2", true, () -> x.better(36, 20));
            due("37 and 2", false, () -> x.better(37, 20));
            due("38 and 2", false, () -> x.better(38, 20));
            due("20 and 18", true, () -> x.better(20, 8));
            due("21 and 18", false, () -> x.better(21, 8));
            due("no RUN", false, () -> x.better(1, 7));
        }
        due("no way without", true, () -> Check.told("legs 9 9").better(200, 8));
        due("no way at all", false, () -> Check.told("legs 9 9").better(200, 7));
        due("OUT", false, () -> new WaistSand().better(1, 20));
        due("by resting, as one would without", false, () -> Check.told("legs 1 1" + move(5, 1, 0, 1)).better(5, 20));
        Doc.says("BETTER. IllegalArgumentException: N or FORCE are none.", 27);
        for (int no : new int[] {0, 201, -1, LEAST, MOST}) {
            due("N " + no, IAE, () -> Check.told(beach).better(no, 20));
            due("N " + no + ", OUT", IAE, () -> new WaistSand().better(no, 20));
        }
        for (int no : new int[] {0, 21, -1, LEAST, MOST}) {
            due("FORCE " + no, IAE, () -> Check.told(beach).better(1, no));
            due("FORCE " + no + ", OUT", IAE, () -> new WaistSand().better(1, no));
        }
        for (int n : new int[] {1, 200}) {
            for (int force : new int[] {1, 20}) {
                due("N " + n + " FORCE " + force, n == 1 && force == 20, () -> Check.told(beach).better(n, force));
            }
        }
    }

    private static void force() {
        Doc.says("FORCE in N PULLS (1 to 30): the least FORCE by which these alone bring one OUT from the BODY as it is; none;", 28);
        int[] least = {0, 16, 12, 10, 10, 9, 9, 9, 9, 8, 8};
        for (int n = 1; n <= 30; n++) {
            int pulls = n;
            due("9 in " + n, least[Math.min(10, n)], () -> Check.told("legs 9 2").force(pulls, false));
            due("9 in " + n, least[Math.min(10, n)], () -> Check.told("legs 2 9").force(pulls, false));
        }
        due("THIN 2: less firm by 1", 15, () -> Check.told("legs 9 9;thin 2").force(1, false));
        due("THIN 4: less firm by 2", 14, () -> Check.told("legs 9 9;thin 4").force(1, false));
        due("lying in thin sand", 1, () -> lyingOne("legs 1 1;thin 5", "").force(1, false));
        due("lying in thin sand, 9 deep", 9, () -> lyingOne("legs 9 9;thin 5", "").force(1, false));
        due("OUT", 1, () -> new WaistSand().force(1, false));
        Doc.says("HARM that comes by them then (as many as are needed, till one is OUT).", 28);
        int[] harm = {0, 8, 8, 6, 6, 5, 5, 5, 5, 0, 0};
        for (int n = 1; n <= 30; n++) {
            int pulls = n;
            due("9 in " + n, harm[Math.min(10, n)], () -> Check.told("legs 9 2").force(pulls, true));
        }
        due("FORCE 8 harms nothing", 0, () -> Check.told("legs 1 1").force(1, true));
        due("FORCE 9 by 1", 1, () -> Check.told("legs 2 2").force(1, true));
        due("OUT", 0, () -> new WaistSand().force(1, true));
        WaistSand x = Check.told("legs 9 9");
        x.force(1, true);
        due("nothing stays", List.of(9, 9, 0, 0), () -> List.of(x.count(0), x.count(1), x.count(6), x.count(7)));
        x.pull(12);
        due("HARM that was there is none of it: 4 in one", 3, () -> x.force(1, true));
        Doc.says("FORCE (harm false), or HARM; NONE. IllegalArgumentException: N is none.", 28);
        for (int n : new int[] {0, 31, -1, LEAST, MOST}) {
            due("N " + n, IAE, () -> Check.told("legs 9 9").force(n, false));
            due("N " + n, IAE, () -> Check.told("legs 9 9").force(n, true));
            due("N " + n + ", OUT", IAE, () -> new WaistSand().force(n, true));
        }
        // FORCE 20 lifts by 13 at least, so that NONE is not come to.
        due("the deepest there is", 16, () -> Check.told("legs 9 9;thin 0").force(1, false));
    }
}
