/** "Terms", STATE and ==== 1: each sentence that names a bound, with the last that is in it and the first that is not. */
public final class MapBoundsTest {
    private static final int MIN = Checks.MIN;
    private static final int MAX = Checks.MAX;
    private static final int NONE = Checks.NONE;
    private static final Checks t = new Checks("MapBoundsTest");

    public static void main(String[] args) {
        manyCalls();
        states();
        drawsWrap();
        drawsWithoutSign();
        places();
        rowsDoNotJoin();
        hoursAtFirst();
        hourColumns();
        altitudeLeavesHeat();
        nowAtFirst();
        pilgrimsAsTheyCome();
        pilgrimColumns();
        ownPlaces();
        pilgrimsAtFirst();
        wayModuloEight();
        eachHourItsOwn();
        parasolFromCorners();
        parasolFromEdges();
        parasolByAltitude();
        parasolEndsAtRows();
        tallness();
        tallAltitude();
        nextPlace();
        nextPlaceMissing();
        girth();
        besideByWay();
        besideAtEdges();
        tallBearer();
        shadedBy();
        t.finish();
    }

    private static void manyCalls() {
        t.sentence("An object is used for at most 512 calls after it has been made");
        SevenToAShadow x = new SevenToAShadow();
        for (int day = 1; day <= 255; day++) {
            t.due("hours(12)", x.hours(12), 0);
            t.due("evening()", x.evening(), day);
        }
        t.due("the 511th call", x.look(0), 255);
        t.due("the 512th call", x.evening(), NONE);
    }

    private static void states() {
        t.sentence("STATE of draws (an int, 0 at first)");
        SevenToAShadow x = new SevenToAShadow();
        t.due("look(5)", x.look(5), 0);
        int was = 0;
        for (int v : new int[] {MIN, MIN + 1, -2, -1, 0, 1, MAX - 1, MAX}) {
            t.due("state(" + v + ")", x.state(v), was);
            t.due("look(5)", x.look(5), v);
            was = v;
        }
    }

    /** Told by the remainder of longs, not by ints that wrap. */
    private static int after(int state) {
        long next = (1664525L * state + 1013904223L) & 0xffffffffL;
        return (int) (next >= 1L << 31 ? next - (1L << 32) : next);
    }

    private static int drawn(int state, int m) {
        long next = (1664525L * state + 1013904223L) & 0xffffffffL;
        return (int) ((next >> 8) % m);
    }

    private static void drawsWrap() {
        t.sentence("it becomes 1664525 times itself + 1013904223 (ints, which wrap)");
        for (int v : new int[] {0, 1, -1, 681, 682, 1290, -1290, MAX, MIN, MAX - 1, MIN + 1, 0x7fff0000}) {
            SevenToAShadow x = new SevenToAShadow();
            x.hour(0, 4, 1);
            x.state(v);
            x.hours(1);
            t.due("STATE after " + v, x.look(5), after(v));
        }
        t.due("by hand: after 0", after(0), 1013904223);
        t.due("by hand: after -1", after(-1), 1012239698);
        t.due("by hand: after MIN", after(MIN), 1013904223 + MIN);
        t.due("by hand: after 1000, 1664525000 + 1013904223 - 4294967296", after(1000), -1616538073);
    }

    /** A STATE after which a DRAW of ten is d and the new STATE below 0 or not. */
    private static int stateBefore(int d, boolean below) {
        for (int v = 0; v < 100000; v++) {
            if (drawn(v, 10) == d && after(v) < 0 == below) {
                return v;
            }
        }
        return MIN;
    }

    private static void drawsWithoutSign() {
        t.sentence("then it is its highest 24 bits (without sign) modulo m; a DRAW of 10: below CLOUDS its HEAT is 0");
        for (int d = 0; d < 10; d++) {
            for (int clouds = 0; clouds <= 10; clouds++) {
                for (int sign = 0; sign < 2; sign++) {
                    int before = stateBefore(d, sign == 1);
                    SevenToAShadow x = new SevenToAShadow();
                    x.pilgrim(0, 0, 1, 1, 0);
                    x.hour(0, 4, clouds);
                    x.state(before);
                    t.due("a draw of " + d + " under " + clouds, x.hours(1), d < clouds ? 0 : 1);
                    t.due("STATE", x.look(5), clouds == 0 ? before : after(before));
                }
            }
        }
    }

    private static void places() {
        t.sentence("PLACES 0 .. 24");
        for (int place : Checks.around(0, 24)) {
            boolean is = Checks.in(place, 0, 24);
            SevenToAShadow x = new SevenToAShadow();
            t.due("pilgrim at " + place, x.pilgrim(place, 0, 1, 0, 0), is ? 0 : NONE);
            t.due("how many", x.look(2), is ? 1 : 0);
            t.due("where", x.of(0, 0), is ? place : NONE);
            t.due("shade at " + place, x.shade(place, 0), is ? 0 : NONE);
            SevenToAShadow y = new SevenToAShadow();
            y.pilgrim(7, 0, 1, 0, 0);
            t.due("give " + place, y.give(0, 0, place), is);
            t.due("where", y.of(0, 0), is ? place : 7);
        }
    }

    /** Whether two who QUARREL fight, which they do if they are FAR 1 at most. */
    private static int fights(int a, int b) {
        SevenToAShadow x = new SevenToAShadow();
        x.pilgrim(a, 0, 1, 0, 0);
        x.pilgrim(b, 0, 1, 0, 0);
        x.quarrel(0, 1, true);
        x.hours(1);
        return x.look(3);
    }

    private static void rowsDoNotJoin() {
        t.sentence("place 5 y + x (x, y 0 .. 4)");
        int[][] rowEnds = {{4, 5}, {9, 10}, {14, 15}, {19, 20}, {4, 10}, {0, 9}, {0, 4}, {0, 20}, {0, 24}, {4, 20}};
        for (int[] two : rowEnds) {
            t.due(two[0] + " is not next to " + two[1], fights(two[0], two[1]), 0);
        }
        int[][] beside = {{0, 1}, {0, 5}, {0, 6}, {4, 3}, {4, 8}, {4, 9}, {20, 15}, {20, 16}, {20, 21}, {24, 23},
            {24, 18}, {24, 19}};
        for (int[] two : beside) {
            t.due(two[0] + " is next to " + two[1], fights(two[0], two[1]), 1);
        }
    }

    private static void hoursAtFirst() {
        t.sentence("HOURS 0 .. 11, with what they have at first");
        SevenToAShadow x = new SevenToAShadow();
        int[] suns = {2, 2, 3, 3, 4, 4, 4, 4, 5, 5, 6, 6};
        int[] altitudes = {0, 1, 2, 3, 4, 4, 4, 4, 3, 2, 1, 0};
        for (int h = 0; h < 12; h++) {
            int[] want = {suns[h], altitudes[h], altitudes[h] + 1, 0, 0};
            for (int k = 0; k < 5; k++) {
                t.due("HOUR " + h + ", " + k, x.look(10 + 5 * h + k), want[k]);
            }
        }
        for (int h : Checks.around(0, 11)) {
            t.due("hour " + h, x.hour(h, 2, 7), Checks.in(h, 0, 11));
            t.due("shade in " + h, x.shade(0, h), Checks.in(h, 0, 11) ? 0 : NONE);
            t.due("fewest in " + h, x.fewest(h, h), Checks.in(h, 0, 11) ? 0 : NONE);
            t.due("walk in " + h, x.walk(h, h, 0), Checks.in(h, 0, 11) ? 0 : NONE);
            t.due("turn in " + h, x.turn(h, 0, 0), Checks.in(h, 0, 11) ? 0 : -100000);
        }
    }

    private static void hourColumns() {
        t.sentence("a SUN 0 .. 7, an ALTITUDE 0 .. 4, a HEAT 0 .. 9, a ROAD 0 .. 7, CLOUDS 0 .. 10");
        int[] most = {7, 4, 9, 7, 10};
        for (int h = 0; h < 12; h++) {
            for (int k = 0; k < 5; k++) {
                SevenToAShadow x = new SevenToAShadow();
                int is = x.look(10 + 5 * h + k);
                for (int v : Checks.around(0, most[k])) {
                    boolean can = Checks.in(v, 0, most[k]);
                    t.due("hour(" + h + ", " + k + ", " + v + ")", x.hour(h, k, v), can);
                    is = can ? v : is;
                    t.due("it is then", x.look(10 + 5 * h + k), is);
                }
            }
        }
    }

    private static void altitudeLeavesHeat() {
        t.sentence("a HEAT 0 .. 9 (at first ALTITUDE and 1)");
        SevenToAShadow x = new SevenToAShadow();
        for (int h = 0; h < 12; h++) {
            int heat = x.look(11 + 5 * h) + 1;
            t.due("HEAT of " + h, x.look(12 + 5 * h), heat);
            x.hour(h, 1, 0);
            t.due("HEAT of " + h + " after ALTITUDE was told", x.look(12 + 5 * h), heat);
        }
    }

    private static void nowAtFirst() {
        t.sentence("NOW 0 .. 12 (0 at first): HOURS below NOW went by");
        SevenToAShadow x = new SevenToAShadow();
        for (int now = 0; now < 12; now++) {
            t.due("NOW", x.look(1), now);
            t.due("an hour more", x.hours(1), 0);
        }
        t.due("NOW", x.look(1), 12);
        t.due("no hour more", x.hours(1), NONE);
        t.due("NOW still", x.look(1), 12);
    }

    private static void pilgrimsAsTheyCome() {
        t.sentence("PILGRIMS 0 .. 9 as they come");
        SevenToAShadow x = new SevenToAShadow();
        for (int p = 0; p < 10; p++) {
            t.due("nobody yet", x.of(p, 0), NONE);
            t.due("who comes", x.pilgrim(24 - p, 0, 1, 0, 0), p);
            t.due("his place", x.of(p, 0), 24 - p);
            t.due("how many", x.look(2), p + 1);
        }
        t.due("an eleventh", x.pilgrim(0, 0, 1, 0, 0), NONE);
        t.due("how many", x.look(2), 10);
        t.due("nobody", x.of(10, 0), NONE);
        t.due("nobody is at 0", x.give(9, 0, 0), true);
    }

    private static void pilgrimColumns() {
        t.sentence("TALL 0 .. 9, GIRTH 1 .. 3, SKIN 0 .. 9, WATER 0 .. 9999");
        int[][] bounds = {{0, 24}, {0, 9}, {1, 3}, {0, 9}, {0, 9999}};
        for (int k = 1; k < 5; k++) {
            int least = bounds[k][0];
            int most = bounds[k][1];
            for (int v : new int[] {least, most, least - 1, most + 1, MIN, MAX}) {
                int[] row = {13, 4, 2, 5, 100};
                row[k] = v;
                boolean can = Checks.in(v, least, most);
                SevenToAShadow x = new SevenToAShadow();
                t.due(v + " as column " + k, x.pilgrim(row[0], row[1], row[2], row[3], row[4]), can ? 0 : NONE);
                t.due("it is", x.of(0, k), can ? v : NONE);
                t.due("how many", x.look(2), can ? 1 : 0);
                t.due("his place is free, if he did not come", x.pilgrim(13, 0, 1, 0, 0), can ? NONE : 0);
            }
        }
    }

    private static void ownPlaces() {
        t.sentence("a PLACE (of his own)");
        SevenToAShadow x = new SevenToAShadow();
        x.pilgrim(0, 0, 1, 0, 0);
        x.pilgrim(24, 0, 1, 0, 0);
        t.due("where the first is", x.pilgrim(0, 0, 1, 0, 0), NONE);
        t.due("where the second is", x.pilgrim(24, 0, 1, 0, 0), NONE);
        t.due("to the other's", x.give(0, 0, 24), false);
        t.due("to the other's", x.give(1, 0, 0), false);
        t.due("to his own", x.give(0, 0, 0), true);
        t.due("to his own", x.give(1, 0, 24), true);
        t.due("to a free one", x.give(0, 0, 23), true);
        t.due("where the first was", x.pilgrim(0, 0, 1, 0, 0), 2);
        t.due("where he is", x.pilgrim(23, 0, 1, 0, 0), NONE);
    }

    private static void pilgrimsAtFirst() {
        t.sentence("a PARASOL or not (not at first); a HAT or not (not at first). BURN (0 at first), SOLD, BOUGHT (0)");
        SevenToAShadow x = new SevenToAShadow();
        x.pilgrim(12, 9, 3, 9, 9999);
        x.pilgrim(13, 9, 3, 9, 9999);
        for (int p = 0; p < 2; p++) {
            for (int what = 5; what < 10; what++) {
                t.due("of(" + p + ", " + what + ")", x.of(p, what), 0);
            }
        }
        t.sentence("QUARRELS: two who can't bear one another (none at first)");
        x.hours(1);
        t.due("no FIGHTS", x.look(3), 0);
    }

    private static void wayModuloEight() {
        t.sentence("SHADE falls in an HOUR by the WAY SUN and 4 less ROAD (modulo 8)");
        // SUN, ROAD, and the PLACE next to 12 on which the shade falls.
        int[][] all = {{0, 0, 17}, {0, 4, 7}, {0, 5, 6}, {0, 7, 16}, {3, 0, 6}, {4, 0, 7}, {7, 0, 18}, {7, 7, 17},
            {3, 7, 7}, {4, 7, 8}, {7, 3, 7}, {7, 4, 6}, {1, 6, 6}, {2, 6, 7}};
        for (int[] one : all) {
            SevenToAShadow x = new SevenToAShadow();
            x.pilgrim(12, 0, 1, 0, 0);
            x.give(0, 1, 1);
            x.hour(0, 0, one[0]);
            x.hour(0, 1, 3);
            x.hour(0, 3, one[1]);
            t.due("SUN " + one[0] + ", ROAD " + one[1], Checks.shadeIn(x, 0), Checks.places(12, one[2]));
        }
    }

    private static void eachHourItsOwn() {
        t.sentence("each with a SUN, an ALTITUDE, a HEAT, a ROAD; SHADE falls in an HOUR by SUN and ROAD: of that HOUR");
        SevenToAShadow x = Checks.unlikeRound();
        int[] burns = new int[8];
        for (int h = 0; h < 12; h++) {
            int sum = 0;
            for (int way = 0; way < 8; way++) {
                boolean shaded = way == Checks.unlikeWay(h);
                t.due("shade by WAY " + way + " in HOUR " + h, x.shade(Checks.NEXT[way], h), shaded ? 1 : 0);
                t.due("SHADED by WAY " + way + " in HOUR " + h, x.of(way + 1, 10), shaded ? 1 : 0);
                int burnt = shaded ? 0 : Checks.unlikeHeat(h) * (way + 1);
                burns[way] += burnt;
                sum += burnt;
            }
            t.due("how much all burnt in HOUR " + h, x.hours(1), sum);
            for (int way = 0; way < 8; way++) {
                t.due("BURN by WAY " + way + " after HOUR " + h, x.of(way + 1, 7), burns[way]);
            }
        }
    }

    /** The shade of one who stands there alone, by a WAY; with a PARASOL if he is not TALL. */
    private static int shade(int place, int tall, int girth, int way, int altitude) {
        SevenToAShadow x = new SevenToAShadow();
        x.pilgrim(place, tall, girth, 0, 0);
        x.give(0, 1, tall == 0 ? 1 : 0);
        x.hour(0, 0, (way + 4) % 8);
        x.hour(0, 1, altitude);
        return Checks.shadeIn(x, 0);
    }

    private static void parasol(int place, int way, int... want) {
        t.due("a PARASOL at " + place + " by " + way, shade(place, 0, 1, way, 0), Checks.places(want));
    }

    private static void parasolFromCorners() {
        t.sentence("his own PLACE and the next ones by that WAY (as far as there are PLACES)");
        parasol(0, 2, 0, 1, 2, 3, 4);
        parasol(0, 3, 0, 6, 12, 18, 24);
        parasol(0, 4, 0, 5, 10, 15, 20);
        parasol(4, 4, 4, 9, 14, 19, 24);
        parasol(4, 5, 4, 8, 12, 16, 20);
        parasol(4, 6, 4, 3, 2, 1, 0);
        parasol(20, 0, 20, 15, 10, 5, 0);
        parasol(20, 1, 20, 16, 12, 8, 4);
        parasol(20, 2, 20, 21, 22, 23, 24);
        parasol(24, 0, 24, 19, 14, 9, 4);
        parasol(24, 6, 24, 23, 22, 21, 20);
        parasol(24, 7, 24, 18, 12, 6, 0);
        int[][] outwards = {{0, 5}, {0, 6}, {0, 7}, {0, 0}, {0, 1}, {4, 7}, {4, 0}, {4, 1}, {4, 2}, {4, 3}, {20, 3},
            {20, 4}, {20, 5}, {20, 6}, {20, 7}, {24, 1}, {24, 2}, {24, 3}, {24, 4}, {24, 5}};
        for (int[] one : outwards) {
            parasol(one[0], one[1], one[0]);
        }
    }

    private static void parasolFromEdges() {
        t.sentence("the next ones by that WAY, askew from the middle of an edge");
        parasol(2, 3, 2, 8, 14);
        parasol(2, 5, 2, 6, 10);
        parasol(10, 1, 10, 6, 2);
        parasol(10, 3, 10, 16, 22);
        parasol(14, 5, 14, 18, 22);
        parasol(14, 7, 14, 8, 2);
        parasol(22, 1, 22, 18, 14);
        parasol(22, 7, 22, 16, 10);
    }

    private static void parasolEndsAtRows() {
        t.sentence("place 5 y + x: no shade goes from one row's end to the next row");
        parasol(4, 2, 4);
        parasol(9, 2, 9);
        parasol(8, 2, 8, 9);
        parasol(5, 6, 5);
        parasol(6, 6, 6, 5);
        parasol(9, 1, 9);
        parasol(9, 3, 9);
        parasol(10, 5, 10);
        parasol(10, 7, 10);
        parasol(13, 3, 13, 19);
        parasol(11, 7, 11, 5);
    }

    private static void parasolByAltitude() {
        t.sentence("4 less ALTITUDE of them");
        int[][] want = {{20, 15, 10, 5, 0}, {20, 15, 10, 5}, {20, 15, 10}, {20, 15}, {20}};
        for (int altitude = 0; altitude < 5; altitude++) {
            t.due("ALTITUDE " + altitude, shade(20, 0, 1, 0, altitude), Checks.places(want[altitude]));
            t.due("askew, ALTITUDE " + altitude, Integer.bitCount(shade(4, 0, 1, 5, altitude)), 5 - altitude);
        }
    }

    private static void tallness() {
        t.sentence("one whose TALL is 5 or more");
        for (int tall = 1; tall < 10; tall++) {
            SevenToAShadow x = new SevenToAShadow();
            x.pilgrim(12, tall, 3, 0, 0);
            x.hour(0, 1, 2);
            t.due("TALL " + tall, Checks.shadeIn(x, 0), tall < 5 ? 0 : Checks.places(6, 11, 16));
        }
        SevenToAShadow x = new SevenToAShadow();
        x.pilgrim(12, 0, 3, 0, 0);
        t.due("TALL 0", Checks.shadeIn(x, 0), 0);
    }

    private static void tallAltitude() {
        t.sentence("if ALTITUDE is 2 or less (3 or less, if his GIRTH is 3)");
        for (int altitude = 0; altitude < 5; altitude++) {
            t.due("GIRTH 1 at " + altitude, shade(12, 5, 1, 6, altitude), altitude <= 2 ? Checks.places(11) : 0);
            t.due("GIRTH 2 at " + altitude, shade(12, 5, 2, 6, altitude), altitude <= 2 ? Checks.places(11, 6, 16) : 0);
            t.due("GIRTH 3 at " + altitude, shade(12, 5, 3, 6, altitude), altitude <= 3 ? Checks.places(11, 6, 16) : 0);
        }
    }

    private static void nextPlace() {
        t.sentence("the next PLACE by it, if there is one");
        int[] next = {7, 8, 13, 18, 17, 16, 11, 6};
        for (int way = 0; way < 8; way++) {
            t.due("from 12 by " + way, shade(12, 5, 1, way, 0), Checks.places(next[way]));
        }
        t.due("from 0 by 2", shade(0, 5, 1, 2, 0), Checks.places(1));
        t.due("from 0 by 3", shade(0, 5, 1, 3, 0), Checks.places(6));
        t.due("from 24 by 7", shade(24, 5, 1, 7, 0), Checks.places(18));
        t.due("from 24 by 0", shade(24, 5, 1, 0, 0), Checks.places(19));
    }

    private static void nextPlaceMissing() {
        t.sentence("the next PLACE by it, if there is one: else none, nor any next to that one");
        int[][] outwards = {{0, 0}, {0, 1}, {0, 5}, {0, 6}, {0, 7}, {2, 7}, {2, 0}, {2, 1}, {4, 1}, {4, 2}, {4, 3},
            {14, 1}, {14, 2}, {14, 3}, {10, 5}, {10, 6}, {10, 7}, {20, 3}, {20, 4}, {20, 5}, {22, 3}, {22, 4}, {22, 5},
            {24, 3}, {24, 5}, {24, 1}, {9, 2}, {5, 6}};
        for (int[] one : outwards) {
            for (int girth = 1; girth <= 3; girth++) {
                t.due("from " + one[0] + " by " + one[1], shade(one[0], 9, girth, one[1], 0), 0);
            }
        }
    }

    private static void girth() {
        t.sentence("if his GIRTH is 2 or more");
        t.due("GIRTH 1", shade(12, 9, 1, 4, 0), Checks.places(17));
        t.due("GIRTH 2", shade(12, 9, 2, 4, 0), Checks.places(17, 16, 18));
        t.due("GIRTH 3", shade(12, 9, 3, 4, 0), Checks.places(17, 16, 18));
        t.due("GIRTH 3, not TALL", shade(12, 4, 3, 4, 0), 0);
    }

    private static void besideByWay() {
        t.sentence("the PLACES next to that one by WAY and 2 and by WAY and 6 (modulo 8)");
        int[][] want = {{7, 8, 6}, {8, 14, 2}, {13, 18, 8}, {18, 22, 14}, {17, 16, 18}, {16, 10, 22}, {11, 6, 16},
            {6, 2, 10}};
        for (int way = 0; way < 8; way++) {
            t.due("from 12 by " + way, shade(12, 5, 2, way, 0), Checks.places(want[way]));
        }
    }

    private static void besideAtEdges() {
        t.sentence("by WAY and 2 and by WAY and 6 (modulo 8), as far as there are such");
        t.due("from 0 by 2", shade(0, 5, 2, 2, 0), Checks.places(1, 6));
        t.due("from 0 by 3", shade(0, 5, 2, 3, 0), Checks.places(6, 10, 2));
        t.due("from 0 by 4", shade(0, 5, 2, 4, 0), Checks.places(5, 6));
        t.due("from 4 by 5", shade(4, 5, 2, 5, 0), Checks.places(8, 14, 2));
        t.due("from 4 by 6", shade(4, 5, 2, 6, 0), Checks.places(3, 8));
        t.due("from 20 by 1", shade(20, 5, 2, 1, 0), Checks.places(16, 10, 22));
        t.due("from 23 by 2", shade(23, 5, 2, 2, 0), Checks.places(24, 19));
        t.due("from 23 by 1", shade(23, 5, 2, 1, 0), Checks.places(19, 13));
        t.due("from 9 by 0", shade(9, 5, 2, 0, 0), Checks.places(4, 3));
        t.due("from 9 by 4", shade(9, 5, 2, 4, 0), Checks.places(14, 13));
        t.due("from 5 by 0", shade(5, 5, 2, 0, 0), Checks.places(0, 1));
        t.due("from 8 by 1", shade(8, 5, 2, 1, 0), Checks.places(4));
        t.due("from 6 by 7", shade(6, 5, 2, 7, 0), Checks.places(0));
        t.due("from 16 by 5", shade(16, 5, 2, 5, 0), Checks.places(20));
        t.due("from 18 by 3", shade(18, 5, 2, 3, 0), Checks.places(24));
    }

    private static void tallBearer() {
        t.sentence("who bears a PARASOL .. one whose TALL is 5 or more: one may be both");
        for (int girth = 1; girth <= 3; girth++) {
            SevenToAShadow x = new SevenToAShadow();
            x.pilgrim(12, 5, girth, 0, 0);
            x.give(0, 1, 1);
            int sides = girth == 1 ? 0 : Checks.places(6, 16);
            t.due("ALTITUDE 0, GIRTH " + girth, Checks.shadeIn(x, 0), Checks.places(12, 11, 10) | sides);
            x.hour(0, 1, 3);
            t.due("ALTITUDE 3, GIRTH " + girth, Checks.shadeIn(x, 0), Checks.places(12, 11) | (girth == 3 ? sides : 0));
            x.hour(0, 1, 4);
            t.due("ALTITUDE 4, GIRTH " + girth, Checks.shadeIn(x, 0), Checks.places(12));
            x.give(0, 2, 1);
            t.due("a HAT changes nothing", Checks.shadeIn(x, 0), Checks.places(12));
        }
    }

    private static void shadedBy() {
        t.sentence("SHADED, if his PLACE is shaded by another one, by his own PARASOL, or if he has a HAT");
        SevenToAShadow x = new SevenToAShadow();
        x.pilgrim(12, 9, 3, 1, 0);
        t.due("not by being TALL himself", x.of(0, 10), 0);
        x.pilgrim(13, 4, 3, 1, 0);
        t.due("nobody TALL enough", x.of(0, 10), 0);
        x.pilgrim(17, 5, 1, 1, 0);
        t.due("not behind him", x.of(0, 10), 0);
        x.give(1, 0, 24);
        x.give(2, 0, 13);
        t.due("by another who is TALL", x.of(0, 10), 1);
        t.due("who is not SHADED himself", x.of(2, 10), 0);
        x.give(2, 0, 23);
        x.give(1, 1, 1);
        x.give(1, 0, 14);
        t.due("by another's PARASOL", x.of(0, 10), 1);
        x.give(1, 1, 0);
        t.due("no more", x.of(0, 10), 0);
        x.give(0, 1, 1);
        x.hour(0, 1, 4);
        t.due("by his own PARASOL, ALTITUDE 4", x.of(0, 10), 1);
        x.give(0, 1, 0);
        t.due("no more", x.of(0, 10), 0);
        x.give(0, 2, 1);
        t.due("by a HAT", x.of(0, 10), 1);
        t.due("which shades no PLACE", x.shade(12, 0), 0);
    }
}
