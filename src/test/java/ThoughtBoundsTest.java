import java.util.ArrayList;
import java.util.List;
import java.util.function.Consumer;

/** "Terms", ==== 3: what is found in thought, HOURS undone and THE IMAGE, at the bounds that are named. */
public final class ThoughtBoundsTest {
    private static final int NONE = Checks.NONE;
    private static final Checks t = new Checks("ThoughtBoundsTest");

    public static void main(String[] args) {
        inThought();
        thoughtWhateverNow();
        turnOfEachHour();
        walkOfEachHour();
        fewestOfEachHour();
        thiefOfEachHour();
        walkHours();
        walkMost();
        walkGreatestOfTen();
        walkParasolsAlone();
        walkFreeOfBearers();
        walkBySkin();
        walkBySuns();
        walkAllBear();
        walkHats();
        fewestNobody();
        fewestAll();
        fewestFewestThenNumber();
        fewestAllHours();
        fewestTallAndHats();
        turnBounds();
        turnGain();
        haltsBounds();
        haltsFirst();
        haltsLeast();
        thiefAnother();
        thiefNoneTold();
        thiefOfTen();
        thiefJustSo();
        thiefFirst();
        undoTwelve();
        undoNotUndoneYet();
        undoState();
        undoWhole();
        undoOfTen();
        undoKeepsRulesAndTold();
        forgets();
        forgetsNot();
        forgottenGoesOn();
        imageNone();
        imageAsItWas();
        imageOfWhatIsNotLookedAt();
        imageForgetsLaterOnes();
        imageMoreThanOnce();
        imageTakenAnew();
        imageButTape();
        imageNothingUndone();
        t.finish();
    }

    private static void inThought() {
        t.sentence("IN THOUGHT (no draws, HEAT as told, RULES not asked)");
        SevenToAShadow x = new SevenToAShadow();
        x.pilgrim(12, 0, 1, 1, 9);
        x.pilgrim(24, 0, 1, 2, 9);
        x.quarrel(0, 1, true);
        x.give(0, 1, 1);
        for (int h = 0; h < 12; h++) {
            x.hour(h, 4, 10);
        }
        Checks.rules(x, "seek;");
        x.state(99);
        t.due("walk under CLOUDS 10", x.walk(4, 7, 1), 2 * 20);
        t.due("turn under CLOUDS 10", x.turn(0, 3, 0), 2);
        t.due("halts under CLOUDS 10", x.halts(12, 12, 0), 40);
        x.told(1, 80);
        t.due("thief under CLOUDS 10", x.thief(3), 1);
        x.fewest(0, 11);
        t.due("STATE", x.look(5), 99);
        t.due("NOW", x.look(1), 0);
        t.due("nobody seeks", x.of(1, 0), 24);
        t.due("the ROAD is as told", x.look(13), 0);
    }

    private static void thoughtWhateverNow() {
        t.sentence("IN THOUGHT: of whatever HOURS are asked, whatever NOW is");
        List<Integer> first = thoughts(crossing(0));
        t.alike("six HOURS", thoughts(crossing(6)), first);
        t.alike("twelve HOURS", thoughts(crossing(12)), first);
    }

    /** One bears a PARASOL, one is TALL, one has a HAT; so many HOURS went by, in which nobody went anywhere. */
    private static SevenToAShadow crossing(int now) {
        SevenToAShadow x = new SevenToAShadow();
        x.pilgrim(12, 0, 1, 2, 0);
        x.pilgrim(7, 9, 3, 3, 0);
        x.pilgrim(11, 0, 1, 5, 0);
        x.pilgrim(18, 0, 1, 4, 0);
        x.give(0, 1, 1);
        x.give(3, 2, 1);
        x.hour(3, 3, 2);
        x.told(2, 185);
        if (now > 0) {
            x.hours(now);
        }
        return x;
    }

    private static List<Integer> thoughts(SevenToAShadow x) {
        List<Integer> all = new ArrayList<>();
        for (int h = 0; h < 12; h++) {
            for (int to = h; to < 12; to++) {
                all.add(x.walk(h, to, 1));
                all.add(x.walk(h, to, 12));
                all.add(x.fewest(h, to));
            }
            for (int what = 0; what < 2; what++) {
                all.add(x.turn(h, 3, what));
                all.add(x.halts(h, 2, what));
            }
        }
        for (int what = 0; what < 4; what++) {
            all.add(x.thief(what));
        }
        return all;
    }

    private static void turnOfEachHour() {
        t.sentence("TURN of an HOUR's ROAD to r: of that HOUR, with its SUN, HEAT and ROAD");
        SevenToAShadow x = Checks.unlikeRound();
        for (int h = 0; h < 12; h++) {
            int before = Checks.unlikeWay(h);
            for (int road = 0; road < 8; road++) {
                int after = Checks.unlikeWay(h, road);
                t.due("saved in " + h + " by " + road, x.turn(h, road, 0), Checks.unlikeHeat(h) * (after - before));
                t.due("gain in " + h + " by " + road, x.turn(h, road, 1), after == before ? 0 : 2 << after);
            }
        }
    }

    private static void walkOfEachHour() {
        t.sentence("HEAT of all those HOURS added in which it is shaded by no PARASOL: by the ROAD of each");
        SevenToAShadow x = Checks.unlikeRound();
        for (int from = 0; from < 12; from++) {
            int[] suns = new int[25];
            for (int to = from; to < 12; to++) {
                for (int place = 0; place < 25; place++) {
                    suns[place] += place == Checks.NEXT[Checks.unlikeWay(to)] ? 0 : Checks.unlikeHeat(to);
                }
                int best = 0;
                for (int place = 0; place < 25; place++) {
                    best = place != 12 && suns[place] < suns[best] ? place : best;
                }
                t.due("the palest from " + from + " to " + to, x.walk(from, to, 18), best);
            }
        }
    }

    private static void fewestOfEachHour() {
        t.sentence("all would be SHADED in all these HOURS: by the ROAD of each");
        for (int way = 0; way < 8; way++) {
            SevenToAShadow x = Checks.unlikeHours();
            x.pilgrim(12, 0, 1, 0, 0);
            x.pilgrim(Checks.NEXT[way], 0, 1, 0, 0);
            for (int from = 0; from < 12; from++) {
                boolean first = true;
                boolean second = true;
                for (int to = from; to < 12; to++) {
                    first &= Checks.unlikeWay(to) == way;
                    second &= Checks.unlikeWay(to) == (way + 4) % 8;
                    t.due("WAY " + way + " from " + from + " to " + to, x.fewest(from, to), first ? 1 : second ? 2 : 3);
                }
            }
        }
    }

    private static void thiefOfEachHour() {
        t.sentence("turnings of one HOUR's ROAD: by SUN, HEAT and ROAD of each");
        for (int way = 0; way < 8; way++) {
            SevenToAShadow x = Checks.unlikeHours();
            x.pilgrim(12, 0, 1, 1, 0);
            x.pilgrim(Checks.NEXT[way], 0, 1, 1, 0);
            x.give(0, 1, 1);
            int burn = 0;
            for (int h = 0; h < 12; h++) {
                burn += Checks.unlikeWay(h) == way ? 0 : Checks.unlikeHeat(h);
            }
            for (int more = -9; more <= 9; more++) {
                x.told(1, burn + more);
                t.due("so without one, WAY " + way + ", " + more, x.thief(3), more == 0 ? 1 : 0);
                turnings("WAY " + way + ", " + more, x, way, more);
            }
        }
    }

    /** All turnings by which the one at this WAY from the bearer burns so much more. */
    private static void turnings(String what, SevenToAShadow x, int way, int more) {
        int count = 0;
        int firstHour = NONE;
        int firstRoad = NONE;
        for (int h = 11; h >= 0; h--) {
            int burnt = Checks.unlikeWay(h) == way ? 0 : Checks.unlikeHeat(h);
            for (int road = 7; road >= 0; road--) {
                int turned = Checks.unlikeWay(h, road) == way ? 0 : Checks.unlikeHeat(h);
                if (road != Checks.unlikeRoad(h) && turned - burnt == more) {
                    count++;
                    firstHour = h;
                    firstRoad = road;
                }
            }
        }
        t.due("turnings, " + what, x.thief(0), count);
        t.due("the HOUR, " + what, x.thief(1), firstHour);
        t.due("the ROAD, " + what, x.thief(2), firstRoad);
    }

    private static void walkHours() {
        t.sentence("WALK for HOURS from .. to");
        SevenToAShadow x = new SevenToAShadow();
        x.pilgrim(0, 0, 1, 1, 0);
        int[] heats = {1, 2, 3, 4, 5, 5, 5, 5, 4, 3, 2, 1};
        for (int from = 0; from < 12; from++) {
            int sum = 0;
            for (int to = from; to < 12; to++) {
                sum += heats[to];
                t.due("walk(" + from + ", " + to + ")", x.walk(from, to, 1), sum);
            }
        }
    }

    private static void walkMost() {
        t.sentence("the greatest, and the sum, of SUNS times SKIN");
        SevenToAShadow x = new SevenToAShadow();
        t.due("nobody: the greatest", x.walk(0, 11, 0), 0);
        t.due("nobody: the sum", x.walk(0, 11, 1), 0);
        for (int h = 0; h < 12; h++) {
            x.hour(h, 2, 9);
        }
        for (int p = 0; p < 10; p++) {
            x.pilgrim(24 - p, 9, 3, 9, 0);
        }
        t.due("the greatest", x.walk(0, 11, 0), 972);
        t.due("the sum", x.walk(0, 11, 1), 9720);
        for (int p = 0; p < 10; p++) {
            t.due("PLACES by number", x.walk(0, 11, 10 + p), p);
        }
    }

    private static void walkGreatestOfTen() {
        t.sentence("the greatest: of PILGRIMS 0 .. 9");
        for (int most = 0; most < 10; most++) {
            SevenToAShadow x = new SevenToAShadow();
            for (int p = 0; p < 10; p++) {
                x.pilgrim(p, 0, 1, p == most ? 3 : 1, 0);
            }
            t.due("the greatest is that of " + most, x.walk(4, 4, 0), 15);
            t.due("the sum", x.walk(4, 4, 1), 60);
            t.due("he is first", x.walk(4, 4, 10 + most), 0);
        }
    }

    private static void walkParasolsAlone() {
        t.sentence("in which it is shaded by no PARASOL");
        SevenToAShadow x = new SevenToAShadow();
        x.pilgrim(1, 9, 3, 1, 0);
        x.pilgrim(14, 0, 1, 1, 0);
        t.due("0 is shaded by one who is TALL: not asked", x.walk(0, 0, 1), 2);
        x.give(1, 1, 1);
        t.due("10 is in the shade of 14", x.walk(0, 0, 10), 10);
        t.due("so nobody burns", x.walk(0, 0, 1), 0);
        x.hour(0, 1, 1);
        t.due("11 is, with ALTITUDE 1", x.walk(0, 0, 10), 11);
        x.hour(0, 1, 4);
        t.due("none but the bearer's, with ALTITUDE 4", x.walk(0, 0, 10), 0);
        t.due("so he burns", x.walk(0, 0, 1), 1);
        x.hour(0, 1, 3);
        x.hour(0, 3, 2);
        t.due("by ROAD 2 it falls from 14 on 19", x.walk(0, 0, 10), 19);
        x.hour(0, 0, 4);
        t.due("and with SUN 4 on 13", x.walk(0, 0, 10), 13);
    }

    private static void walkFreeOfBearers() {
        t.sentence("get PLACES that are free of bearers");
        SevenToAShadow x = new SevenToAShadow();
        x.pilgrim(0, 0, 1, 5, 0);
        x.pilgrim(1, 0, 1, 4, 0);
        t.due("where another stands now is free", x.walk(4, 4, 10), 0);
        t.due("and 1 for the next", x.walk(4, 4, 11), 1);
        x.give(1, 0, 2);
        x.give(0, 0, 1);
        x.give(1, 0, 0);
        t.due("they change", x.walk(4, 4, 10), 0);
        t.due("they change", x.walk(4, 4, 11), 1);
        x.give(1, 1, 1);
        t.due("0 is a bearer's now", x.walk(4, 4, 10), 1);
        t.due("his own", x.walk(4, 4, 11), 0);
    }

    private static void walkBySkin() {
        t.sentence("by SKIN falling, then by number");
        SevenToAShadow x = new SevenToAShadow();
        int[] skins = {0, 9, 5, 9, 0, 5};
        for (int p = 0; p < skins.length; p++) {
            x.pilgrim(20 - p, 0, 1, skins[p], 0);
        }
        int[] want = {4, 0, 2, 1, 5, 3};
        for (int p = 0; p < skins.length; p++) {
            t.due("of SKIN " + skins[p], x.walk(4, 4, 10 + p), want[p]);
        }
    }

    private static void walkBySuns() {
        t.sentence("by SUNS rising, then by number, one each");
        SevenToAShadow x = new SevenToAShadow();
        x.pilgrim(24, 0, 1, 3, 0);
        x.pilgrim(0, 0, 1, 2, 0);
        x.pilgrim(1, 0, 1, 1, 0);
        x.pilgrim(2, 0, 1, 0, 0);
        x.give(0, 1, 1);
        // Shade by WAY 6 in HOURS 0 (20 .. 23) and 1 (21 .. 23), HEAT 1 and 2; 20 has SUNS 2, the others 3.
        t.due("the first of three without SUNS", x.walk(0, 1, 11), 21);
        t.due("the second", x.walk(0, 1, 12), 22);
        t.due("the third", x.walk(0, 1, 13), 23);
        x.pilgrim(3, 0, 1, 9, 0);
        x.pilgrim(4, 0, 1, 9, 0);
        t.due("SUNS 2 before SUNS 3", x.walk(0, 1, 12), 20);
        t.due("then by number", x.walk(0, 1, 13), 0);
        t.due("the greatest is 1 times 2", x.walk(0, 1, 0), 2);
        t.due("the sum: SKIN 0 times 3 is none", x.walk(0, 1, 1), 2);
    }

    private static void walkAllBear() {
        t.sentence("10 + p the PLACE of p (his own, if he bears a PARASOL)");
        SevenToAShadow x = new SevenToAShadow();
        for (int p = 0; p < 10; p++) {
            x.pilgrim(2 * p + 3, 0, 1, 9, 0);
            x.give(p, 1, 1);
        }
        t.due("the greatest", x.walk(0, 11, 0), 0);
        t.due("the sum", x.walk(0, 11, 1), 0);
        for (int p = 0; p < 10; p++) {
            t.due("his own", x.walk(0, 11, 10 + p), 2 * p + 3);
        }
        t.due("nobody else", x.walk(0, 11, 20), NONE);
    }

    private static void walkHats() {
        t.sentence("(HATS not asked)");
        SevenToAShadow x = new SevenToAShadow();
        x.pilgrim(7, 0, 1, 3, 0);
        x.give(0, 2, 1);
        t.due("the sum", x.walk(0, 0, 1), 3);
        t.due("where", x.walk(0, 0, 10), 0);
        x.pilgrim(8, 0, 1, 3, 0);
        t.due("by number, HAT or not", x.walk(0, 0, 10), 0);
        t.due("the next one", x.walk(0, 0, 11), 1);
    }

    private static void fewestNobody() {
        t.sentence("the least set of PILGRIMS: nobody, or none needed");
        SevenToAShadow x = new SevenToAShadow();
        t.due("nobody", x.fewest(0, 11), 0);
        x.pilgrim(0, 0, 1, 0, 0);
        t.due("one", x.fewest(0, 11), 1);
        x.give(0, 1, 1);
        t.due("one who bears a PARASOL now: if just these bore some", x.fewest(0, 11), 1);
        x.give(0, 2, 1);
        t.due("one with a HAT", x.fewest(0, 11), 0);
        SevenToAShadow y = new SevenToAShadow();
        y.pilgrim(11, 0, 1, 0, 0);
        y.pilgrim(12, 0, 1, 0, 0);
        y.give(0, 1, 1);
        t.due("12 in HOUR 0, though 11 bears one now", y.fewest(0, 0), 2);
    }

    private static void fewestAll() {
        t.sentence("(All as bearers are always enough.)");
        SevenToAShadow x = new SevenToAShadow();
        for (int p = 0; p < 10; p++) {
            x.pilgrim(p, 9, 3, 0, 0);
        }
        t.due("ALTITUDE 4: all ten", x.fewest(4, 4), 1023);
        t.due("a whole DAY", x.fewest(0, 11), 1023);
        for (int p = 0; p < 10; p++) {
            x.give(p, 2, 1);
        }
        t.due("all with HATS", x.fewest(0, 11), 0);
        x.give(9, 2, 0);
        t.due("all but the last", x.fewest(4, 4), 512);
        t.due("no PARASOL was given", x.of(9, 5), 0);
    }

    private static void fewestFewestThenNumber() {
        t.sentence("(fewest, then as a number)");
        SevenToAShadow x = new SevenToAShadow();
        // WAY 6: 14 shades 10 .. 14, 13 shades 10 .. 13 of their row.
        int[] places = {10, 11, 13, 14};
        for (int place : places) {
            x.pilgrim(place, 0, 1, 0, 0);
        }
        t.due("14 alone shades all", x.fewest(0, 0), 8);
        x.hour(0, 1, 1);
        t.due("ALTITUDE 1: 14 does not reach 10: with 10", x.fewest(0, 0), 8 | 1);
        x.hour(0, 1, 3);
        t.due("ALTITUDE 3: 14 and 11", x.fewest(0, 0), 8 | 2);
        SevenToAShadow y = new SevenToAShadow();
        y.pilgrim(2, 0, 1, 0, 0);
        y.pilgrim(1, 9, 1, 0, 0);
        y.pilgrim(0, 0, 1, 0, 0);
        t.due("1 is TALL and shades 0; 2 shades itself and 1", y.fewest(0, 0), 1);
        SevenToAShadow z = new SevenToAShadow();
        z.pilgrim(20, 0, 1, 0, 0);
        z.pilgrim(24, 0, 1, 0, 0);
        z.pilgrim(0, 0, 1, 0, 0);
        z.pilgrim(4, 0, 1, 0, 0);
        z.hour(0, 0, 0);
        z.hour(0, 3, 0);
        t.due("WAY 4: 0 shades 20, 4 shades 24", z.fewest(0, 0), 4 | 8);
        z.hour(0, 0, 4);
        t.due("WAY 0: 20 shades 0, 24 shades 4", z.fewest(0, 0), 1 | 2);
        x.hour(0, 1, 0);
        x.hour(0, 0, 6);
        t.due("WAY 2: 10 shades all", x.fewest(0, 0), 1);
        fewestBeforeNumber();
        equallyFew();
    }

    private static void fewestBeforeNumber() {
        // HOUR 0 by WAY 6: 12 may shade 10, TALL 3 shades 2. HOUR 1 by WAY 0: 12 may shade 2, TALL 15 shades 10.
        SevenToAShadow x = new SevenToAShadow();
        x.hour(1, 0, 4);
        x.hour(1, 1, 0);
        x.pilgrim(10, 0, 1, 0, 0);
        x.pilgrim(2, 0, 1, 0, 0);
        x.pilgrim(12, 0, 1, 0, 0);
        x.pilgrim(15, 5, 1, 0, 0);
        x.pilgrim(3, 5, 1, 0, 0);
        for (int p = 2; p < 5; p++) {
            x.give(p, 2, 1);
        }
        t.due("HOUR 0: 10 himself", x.fewest(0, 0), 1);
        t.due("HOUR 1: 2 himself", x.fewest(1, 1), 2);
        t.due("both: 12 alone, fewer than 10 and 2, though 4 is more than 3", x.fewest(0, 1), 4);
        x.give(2, 2, 0);
        t.due("12 has no HAT: 12 alone still", x.fewest(0, 1), 4);
        x.give(2, 0, 24);
        t.due("12 is away: all three", x.fewest(0, 1), 7);
    }

    private static void equallyFew() {
        // HOUR 2: WAY 7, two PLACES far. Of 0 and 18 (9), 6 and 18 (10), 6 and 24 (6) the last.
        SevenToAShadow w = new SevenToAShadow();
        w.pilgrim(0, 0, 1, 0, 0);
        w.pilgrim(6, 0, 1, 0, 0);
        w.pilgrim(24, 0, 1, 0, 0);
        w.pilgrim(18, 0, 1, 0, 0);
        w.give(2, 2, 1);
        t.due("of three sets of two the least as a number", w.fewest(2, 2), 6);
        SevenToAShadow x = new SevenToAShadow();
        x.pilgrim(12, 9, 1, 0, 0);
        x.pilgrim(13, 9, 1, 0, 0);
        x.pilgrim(14, 9, 1, 0, 0);
        x.pilgrim(2, 0, 1, 0, 0);
        t.due("14 is shaded by none, 2 by none: both, and no other two", x.fewest(0, 0), 4 | 8);
        x.give(3, 0, 11);
        t.due("all shade the next: 14 alone needs", x.fewest(0, 0), 4);
        SevenToAShadow y = new SevenToAShadow();
        y.pilgrim(14, 0, 1, 0, 0);
        y.pilgrim(10, 0, 1, 0, 0);
        y.give(0, 2, 1);
        t.due("10 by himself or by 14: the least number is 14's", y.fewest(0, 0), 1);
        SevenToAShadow z = new SevenToAShadow();
        z.pilgrim(10, 0, 1, 0, 0);
        z.pilgrim(14, 0, 1, 0, 0);
        z.give(1, 2, 1);
        t.due("and here 10's", z.fewest(0, 0), 1);
    }

    private static void fewestAllHours() {
        t.sentence("all would be SHADED in all these HOURS");
        SevenToAShadow x = new SevenToAShadow();
        x.pilgrim(12, 0, 1, 0, 0);
        x.pilgrim(11, 0, 1, 0, 0);
        x.hour(2, 0, 2);
        t.due("12 in HOUR 0", x.fewest(0, 0), 1);
        t.due("12 in HOURS 0 .. 2", x.fewest(0, 2), 1);
        t.due("both in HOUR 3", x.fewest(3, 3), 3);
        t.due("both in HOURS 0 .. 3", x.fewest(0, 3), 3);
        t.due("both in HOURS 2 .. 3", x.fewest(2, 3), 3);
        t.due("11 in HOUR 11", x.fewest(11, 11), 2);
        t.due("11 in HOURS 10, 11", x.fewest(10, 11), 2);
        t.due("both in HOURS 9 .. 11", x.fewest(9, 11), 3);
        x.hours(6);
        t.due("whatever NOW is", x.fewest(0, 0), 1);
    }

    private static void fewestTallAndHats() {
        t.sentence("(by TALL ones, HATS, too)");
        SevenToAShadow x = new SevenToAShadow();
        x.pilgrim(12, 4, 3, 0, 0);
        x.pilgrim(6, 0, 1, 0, 0);
        x.pilgrim(11, 0, 1, 0, 0);
        x.give(2, 2, 1);
        t.due("TALL 4: 6 and 12", x.fewest(0, 0), 3);
        SevenToAShadow y = new SevenToAShadow();
        y.pilgrim(12, 5, 3, 0, 0);
        y.pilgrim(6, 0, 1, 0, 0);
        y.pilgrim(11, 0, 1, 0, 0);
        t.due("TALL 5: 12 alone", y.fewest(0, 0), 1);
        y.give(0, 2, 1);
        t.due("and with a HAT none", y.fewest(0, 0), 0);
        t.due("nor in HOUR 3's shade, by WAY 7, for 6; 11 is not", y.fewest(3, 3), 4);
    }

    private static void turnBounds() {
        t.sentence("TURN of an HOUR's ROAD to r: by how much less all would burn (it may be below 0)");
        SevenToAShadow x = new SevenToAShadow();
        x.hour(0, 2, 9);
        x.pilgrim(14, 0, 1, 9, 0);
        for (int place = 10; place < 14; place++) {
            x.pilgrim(place, 0, 1, 9, 0);
        }
        x.give(0, 1, 1);
        for (int r = 0; r < 8; r++) {
            t.due("from 0 to " + r, x.turn(0, r, 0), r == 0 ? 0 : -324);
            t.due("who gains", x.turn(0, r, 1), 0);
        }
        x.hour(0, 3, 7);
        for (int r = 0; r < 8; r++) {
            t.due("from 7 to " + r, x.turn(0, r, 0), r == 0 ? 324 : 0);
            t.due("who gains", x.turn(0, r, 1), r == 0 ? 30 : 0);
        }
        x.hour(0, 3, 0);
        x.hour(0, 2, 0);
        t.due("without HEAT", x.turn(0, 4, 0), 0);
        t.due("the ROAD is as told", x.look(13), 0);
    }

    private static void turnGain() {
        t.sentence("who would gain (burn less), as a set");
        SevenToAShadow x = new SevenToAShadow();
        x.pilgrim(12, 0, 1, 3, 0);
        x.pilgrim(11, 0, 1, 2, 0);
        x.pilgrim(7, 0, 1, 2, 0);
        x.pilgrim(2, 0, 1, 0, 0);
        x.give(0, 1, 1);
        t.due("as much for one as against another", x.turn(0, 6, 0), 0);
        t.due("7 gains; 2, whose SKIN is 0, does not", x.turn(0, 6, 1), 4);
        x.give(2, 2, 1);
        t.due("nor does who has a HAT", x.turn(0, 6, 1), 0);
        t.due("so it is all against", x.turn(0, 6, 0), -2);
        SevenToAShadow ten = new SevenToAShadow();
        for (int p = 0; p < 10; p++) {
            ten.pilgrim(p < 5 ? p + 20 : p + 10, 5, 1, 1, 0);
        }
        ten.hour(0, 0, 0);
        t.due("WAY 4: 15 .. 19 shade 20 .. 24; WAY 0 is worth as much", ten.turn(0, 4, 0), 0);
        t.due("to those who walk ahead", ten.turn(0, 4, 1), 992);
        ten.hour(0, 3, 4);
        t.due("and back to those behind", ten.turn(0, 0, 1), 31);
    }

    private static void haltsBounds() {
        t.sentence("HALTS: n (0 .. 12) HOURS of a DAY to be walked, at most m (1 .. 12) in a row");
        for (int n : Checks.around(0, 12)) {
            SevenToAShadow x = new SevenToAShadow();
            for (int m : Checks.around(1, 12)) {
                boolean can = Checks.in(n, 0, 12) && Checks.in(m, 1, 12) && n <= 12 - 12 / (m + 1);
                int set = x.halts(n, m, 1);
                t.due("there is a way for " + n + ", " + m, set != NONE, can);
                t.due("and it has HEAT", x.halts(n, m, 0) != NONE, can);
                t.due("so many HOURS", can ? Integer.bitCount(set) : n, n);
                t.due("below 12", can && set > 4095, false);
                String row = "1".repeat(can ? m + 1 : 20);
                t.due("so many in a row", can && Integer.toBinaryString(set).contains(row), false);
            }
        }
    }

    /** HOURS told as signs, w walked and . halted in. */
    private static int walked(String day) {
        int set = 0;
        for (int h = 0; h < 12; h++) {
            set |= day.charAt(h) == 'w' ? 1 << h : 0;
        }
        return set;
    }

    private static void haltsFirst() {
        t.sentence("of several the first (HOUR by HOUR, walked first)");
        SevenToAShadow x = new SevenToAShadow();
        for (int h = 0; h < 12; h++) {
            x.hour(h, 2, 3);
        }
        t.due("0", x.halts(0, 1, 1), 0);
        t.due("1 of 1", x.halts(1, 1, 1), walked("w..........."));
        t.due("2 of 1", x.halts(2, 1, 1), walked("w.w........."));
        t.due("6 of 1", x.halts(6, 1, 1), walked("w.w.w.w.w.w."));
        t.due("2 of 2", x.halts(2, 2, 1), walked("ww.........."));
        t.due("8 of 2", x.halts(8, 2, 1), walked("ww.ww.ww.ww."));
        t.due("9 of 3", x.halts(9, 3, 1), walked("www.www.www."));
        t.due("10 of 4", x.halts(10, 4, 1), walked("wwww.wwww.ww"));
        t.due("10 of 5", x.halts(10, 5, 1), walked("wwwww.wwwww."));
        t.due("11 of 6", x.halts(11, 6, 1), walked("wwwwww.wwwww"));
        t.due("11 of 10", x.halts(11, 10, 1), walked("wwwwwwwwww.w"));
        t.due("11 of 11", x.halts(11, 11, 1), walked("wwwwwwwwwww."));
        t.due("11 of 12", x.halts(11, 12, 1), walked("wwwwwwwwwww."));
        t.due("12 of 12", x.halts(12, 12, 1), walked("wwwwwwwwwwww"));
        t.due("its HEAT", x.halts(12, 12, 0), 36);
    }

    private static void haltsLeast() {
        t.sentence("those with the least HEAT together");
        SevenToAShadow x = new SevenToAShadow();
        int[] heats = {9, 9, 0, 0, 0, 9, 9, 1, 9, 9, 9, 0};
        for (int h = 0; h < 12; h++) {
            x.hour(h, 2, heats[h]);
        }
        t.due("1", x.halts(1, 1, 1), walked("..w........."));
        t.due("3 of 1", x.halts(3, 1, 1), walked("..w.w......w"));
        t.due("its HEAT", x.halts(3, 1, 0), 0);
        t.due("4 of 2: the 1 rather than 9s", x.halts(4, 2, 1), walked("..ww...w...w"));
        t.due("its HEAT", x.halts(4, 2, 0), 1);
        t.due("4 of 3", x.halts(4, 3, 1), walked("..www......w"));
        t.due("its HEAT", x.halts(4, 3, 0), 0);
        t.due("all", x.halts(12, 12, 0), 64);
        for (int h = 0; h < 12; h++) {
            x.hour(h, 2, 9);
        }
        t.due("the most", x.halts(12, 12, 0), 108);
        for (int h = 0; h < 12; h++) {
            x.hour(h, 2, 0);
        }
        t.due("none", x.halts(12, 12, 0), 0);
    }

    private static void thiefAnother() {
        t.sentence("turnings of one HOUR's ROAD (to another one than told); the first (by HOUR, ROAD)");
        for (int road = 0; road < 8; road++) {
            SevenToAShadow x = new SevenToAShadow();
            for (int h = 0; h < 12; h++) {
                x.hour(h, 3, road);
            }
            t.due("12 times 7", x.thief(0), 84);
            t.due("HOUR", x.thief(1), 0);
            t.due("ROAD", x.thief(2), road == 0 ? 1 : 0);
            t.due("without one", x.thief(3), 1);
        }
        SevenToAShadow x = new SevenToAShadow();
        x.pilgrim(12, 0, 1, 1, 0);
        x.pilgrim(11, 0, 1, 1, 0);
        x.give(0, 1, 1);
        x.hour(1, 1, 4);
        x.hour(10, 1, 4);
        x.hour(11, 1, 4);
        x.hour(0, 1, 4);
        x.hour(11, 1, 3);
        // SUN 6 in HOUR 11: by ROAD 4 it falls on 11, WAY 6; HEAT 1. HOUR 2, 3, 8, 9 have 3, 4, 4, 3.
        x.told(1, 39);
        t.due("the last HOUR alone", x.thief(0), 1);
        t.due("HOUR", x.thief(1), 11);
        t.due("ROAD", x.thief(2), 4);
        x.hour(11, 0, 1);
        t.due("the last ROAD: 1 + 4 - 7 is 6 modulo 8", x.thief(2), 7);
        x.hour(11, 0, 2);
        t.due("SUN 2, ROAD 0: it is so without", x.thief(3), 1);
        t.due("turnings that leave it so: none of HOUR 11, all of 0, 1, 4 .. 7, 10, six of 2, 3, 8, 9", x.thief(0),
            7 * 7 + 4 * 6);
    }

    private static void thiefNoneTold() {
        t.sentence("BURNS that each had in a DAY (a number or none; none at first)");
        SevenToAShadow x = new SevenToAShadow();
        for (int p = 0; p < 10; p++) {
            x.pilgrim(p, 0, 1, 1, 0);
            t.due("none at first", x.look(80 + p), NONE);
        }
        t.due("all turnings", x.thief(0), 84);
        t.due("so without one", x.thief(3), 1);
        x.told(9, 0);
        t.due("0 is a number", x.thief(3), 0);
        t.due("no turning", x.thief(0), 0);
        t.due("no HOUR", x.thief(1), NONE);
        t.due("no ROAD", x.thief(2), NONE);
        x.told(9, 40);
        t.due("so", x.thief(3), 1);
        x.told(9, NONE);
        t.due("none again", x.thief(0), 84);
    }

    private static void thiefOfTen() {
        t.sentence("BURNS that each had in a DAY: of PILGRIMS 0 .. 9");
        for (int liar = 0; liar < 10; liar++) {
            SevenToAShadow x = new SevenToAShadow();
            for (int p = 0; p < 10; p++) {
                x.pilgrim(p, 0, 1, 1, 0);
                x.told(p, p == liar ? 41 : 40);
            }
            t.due(liar + " can't be so", x.thief(3), 0);
            t.due("nor by a turning", x.thief(0), 0);
            x.told(liar, 40);
            t.due("all are so", x.thief(3), 1);
        }
    }

    private static void thiefJustSo() {
        t.sentence("they would be just so");
        SevenToAShadow x = new SevenToAShadow();
        x.pilgrim(12, 0, 1, 1, 0);
        x.pilgrim(11, 0, 1, 1, 0);
        x.give(0, 1, 1);
        // 11 is in the shade in HOURS 0 and 1, HEAT 1 and 2, so that BURN is 37 and by turnings 33 .. 39.
        // HOURS 2 and 9 could be turned to shade it (HEAT 3), 3 and 8 (4), 10 (2), 11 (1); not 4 .. 7, ALTITUDE 4.
        int[] turnings = {0, 2, 2, 1, 1, 84 - 14 - 6, 7, 7, 0};
        for (int told = 32; told <= 40; told++) {
            x.told(1, told);
            t.due("told " + told, x.thief(0), turnings[told - 32]);
            t.due("so without one, told " + told, x.thief(3), told == 37 ? 1 : 0);
        }
        x.told(1, 38);
        x.told(0, 0);
        t.due("the bearer has 0", x.thief(0), 7);
        x.told(0, 1);
        t.due("not of both", x.thief(0), 0);
    }

    private static void thiefFirst() {
        t.sentence("the first (by HOUR, ROAD)");
        SevenToAShadow x = new SevenToAShadow();
        x.pilgrim(12, 0, 1, 1, 0);
        x.pilgrim(11, 0, 1, 1, 0);
        x.give(0, 1, 1);
        // As above 33 is by HOURS 3 or 8, whose SUNS ask ROADS 5 and 3 for WAY 6.
        x.hour(3, 0, 7);
        x.told(1, 33);
        t.due("two", x.thief(0), 2);
        t.due("the first HOUR", x.thief(1), 3);
        t.due("though its ROAD is more", x.thief(2), 5);
        x.hour(3, 1, 4);
        t.due("one", x.thief(0), 1);
        t.due("the other HOUR", x.thief(1), 8);
        t.due("its ROAD", x.thief(2), 3);
        x.told(1, 38);
        t.due("any other ROAD in HOUR 0", x.thief(0), 7);
        t.due("HOUR", x.thief(1), 0);
        t.due("the first ROAD", x.thief(2), 1);
    }

    private static void undoTwelve() {
        t.sentence("UNDO: the latest HOUR not undone yet goes back: 12 are kept");
        SevenToAShadow x = new SevenToAShadow();
        t.due("nothing", x.undo(), false);
        t.due("NOW", x.look(1), 0);
        x.hours(12);
        for (int now = 11; now >= 0; now--) {
            t.due("so many", x.look(9), now + 1);
            t.due("undo", x.undo(), true);
            t.due("NOW", x.look(1), now);
        }
        t.due("none left", x.look(9), 0);
        t.due("a thirteenth", x.undo(), false);
        t.due("NOW", x.look(1), 0);
        for (int h = 0; h < 12; h++) {
            x.hours(1);
            t.due("one by one", x.look(9), h + 1);
        }
        t.due("no more than NOW 12", x.hours(1), NONE);
        t.due("twelve still", x.look(9), 12);
    }

    private static void undoNotUndoneYet() {
        t.sentence("the latest HOUR not undone yet");
        SevenToAShadow x = new SevenToAShadow();
        x.pilgrim(0, 0, 1, 1, 0);
        x.hours(5);
        t.due("BURN", x.of(0, 7), 15);
        x.undo();
        x.undo();
        t.due("BURN two HOURS before", x.of(0, 7), 6);
        t.due("another HOUR", x.hours(1), 4);
        t.due("BURN", x.of(0, 7), 10);
        t.due("so many", x.look(9), 4);
        x.undo();
        t.due("that one first", x.of(0, 7), 6);
        x.undo();
        t.due("then the one before", x.of(0, 7), 3);
        t.due("so many", x.look(9), 2);
    }

    private static void undoState() {
        t.sentence("goes back (STATE, too)");
        SevenToAShadow x = new SevenToAShadow();
        x.hour(0, 4, 5);
        x.hour(1, 4, 5);
        x.state(Checks.MIN);
        x.hours(1);
        int after = x.look(5);
        x.hours(1);
        x.undo();
        t.due("as before the second HOUR", x.look(5), after);
        x.state(7);
        t.due("told in between: nothing is forgotten", x.look(9), 1);
        x.undo();
        t.due("as before the first", x.look(5), Checks.MIN);
        x.hours(1);
        t.due("the same DRAW again", x.look(5), after);
    }

    private static void undoWhole() {
        t.sentence("the latest HOUR goes back: with all that it did");
        SevenToAShadow x = new SevenToAShadow();
        x.pilgrim(24, 0, 1, 2, 9);
        x.pilgrim(11, 0, 1, 1, 7);
        x.pilgrim(12, 0, 1, 1, 0);
        x.give(2, 1, 1);
        x.quarrel(0, 2, true);
        x.set(0, 4);
        x.set(1, 2);
        Checks.rules(x, "buy when pilgrim = 0;");
        x.hours(1);
        x.hours(1);
        t.due("BOUGHT", x.of(0, 9), 1);
        t.due("FIGHTS", x.look(3), 1);
        t.due("lines", x.look(4), 2);
        t.due("undo", x.undo(), true);
        int[][] want = {{24, 0, 1, 2, 9, 0, 0, 2, 0, 0}, {11, 0, 1, 1, 7, 0, 0, 0, 0, 0}};
        for (int p = 0; p < 2; p++) {
            for (int what = 0; what < 10; what++) {
                t.due("of(" + p + ", " + what + ")", x.of(p, what), want[p][what]);
            }
        }
        t.due("FIGHTS", x.look(3), 0);
        t.due("lines", x.look(4), 1);
        t.due("no line", x.book(1, 0), NONE);
        t.due("NOW", x.look(1), 1);
        int[] then = {0, 1, 3, 0, 1, 0, 4, 2, 1, 1};
        for (int what = 0; what < 10; what++) {
            t.due("look(" + what + ")", x.look(what), then[what]);
        }
    }

    private static void undoOfTen() {
        t.sentence("the latest HOUR goes back: of PILGRIMS 0 .. 9, with their FIGHTS");
        int[] places = {0, 1, 3, 4, 10, 11, 13, 14, 20, 21};
        SevenToAShadow x = new SevenToAShadow();
        for (int p = 0; p < 10; p++) {
            x.pilgrim(places[p], 0, 1, p, 9);
        }
        for (int p = 0; p < 10; p += 2) {
            x.quarrel(p, p + 1, true);
        }
        x.hours(1);
        t.due("FIGHTS", x.look(3), 5);
        x.hours(1);
        t.due("FIGHTS", x.look(3), 10);
        Checks.rules(x, "flee;");
        x.hours(1);
        t.due("they went", x.of(8, 0) != 20, true);
        for (int hours = 2; hours >= 0; hours--) {
            x.undo();
            t.due("FIGHTS after " + hours, x.look(3), 5 * hours);
            for (int p = 0; p < 10; p++) {
                t.due("PLACE of " + p, x.of(p, 0), places[p]);
                t.due("BURN of " + p, x.of(p, 7), hours == 2 ? 3 * p : hours * p);
            }
        }
    }

    private static void undoKeepsRulesAndTold() {
        t.sentence("but RULES, TOLD, STATE: they are as told then");
        SevenToAShadow x = new SevenToAShadow();
        x.pilgrim(0, 0, 1, 1, 0);
        x.hours(2);
        Checks.rules(x, "stay;stay;");
        x.told(0, 9);
        x.hours(1);
        Checks.rules(x, "stay;stay;stay;");
        x.told(0, 8);
        t.due("three can be undone", x.look(9), 3);
        for (int now = 2; now >= 0; now--) {
            x.undo();
            t.due("NOW", x.look(1), now);
            t.due("lines", x.look(8), 3);
            t.due("TOLD", x.look(80), 8);
        }
    }

    private static void forgetting(String what, Consumer<SevenToAShadow> done, boolean forgotten) {
        SevenToAShadow x = Checks.scene();
        t.due("before " + what, x.look(9), 4);
        done.accept(x);
        t.due("after " + what, x.look(9), forgotten ? 0 : 4);
        int now = x.look(1);
        t.due("undo after " + what, x.undo(), !forgotten);
        t.due("NOW after " + what, x.look(1), forgotten ? now : now - 1);
    }

    private static void forgets() {
        t.sentence("whatever else is told or done but RULES, TOLD, STATE forgets them");
        for (int k = 0; k < 5; k++) {
            int what = k;
            forgetting("hour() " + k, x -> x.hour(0, what, 1), true);
            forgetting("hour() as it was " + k, x -> x.hour(11, what, x.look(65 + what)), true);
        }
        forgetting("PRICE", x -> x.set(0, 4), true);
        forgetting("PRICE as it was", x -> x.set(0, x.look(6)), true);
        forgetting("REST", x -> x.set(1, 4), true);
        forgetting("a PILGRIM", x -> x.pilgrim(0, 0, 1, 0, 0), true);
        forgetting("a PLACE", x -> x.give(0, 0, 0), true);
        forgetting("his own PLACE", x -> x.give(0, 0, x.of(0, 0)), true);
        forgetting("a PARASOL", x -> x.give(0, 1, 0), true);
        forgetting("a HAT", x -> x.give(0, 2, 1), true);
        forgetting("WATER", x -> x.give(0, 3, 1), true);
        forgetting("a QUARREL", x -> x.quarrel(0, 1, true), true);
        forgetting("no QUARREL", x -> x.quarrel(0, 2, false), true);
        forgetting("going back to THE IMAGE", x -> x.image(false), true);
        SevenToAShadow x = Checks.lateScene();
        t.due("twelve", x.look(9), 12);
        x.evening();
        t.due("an EVENING", x.look(9), 0);
        t.due("undo after an EVENING", x.undo(), false);
        t.due("NOW after an EVENING", x.look(1), 0);
    }

    private static void forgetsNot() {
        t.sentence("but RULES, TOLD, STATE; nor what can't be, nor what is asked");
        forgetting("STATE", x -> x.state(1), false);
        forgetting("TOLD", x -> x.told(0, 1), false);
        forgetting("TOLD none", x -> x.told(0, NONE), false);
        forgetting("RULES", x -> Checks.rules(x, "stay;"), false);
        forgetting("RULES with a FAULT", x -> Checks.rules(x, "stay"), false);
        forgetting("no RULES", x -> Checks.rules(x, ""), false);
        forgetting("bytes for the TAPE", x -> x.feed(1, 2, 3, 4, 5), false);
        forgetting("fewer bytes on the TAPE", x -> x.end(0), false);
        forgetting("taking THE IMAGE", x -> x.image(true), false);
        forgetting("an HOUR that can't be", x -> x.hour(12, 0, 0), false);
        forgetting("a SUN that can't be", x -> x.hour(0, 0, 8), false);
        forgetting("a PRICE that can't be", x -> x.set(0, 100), false);
        forgetting("a PILGRIM who can't be", x -> x.pilgrim(12, 0, 1, 0, 0), false);
        forgetting("a PLACE that is taken", x -> x.give(0, 0, x.of(2, 0)), false);
        forgetting("a QUARREL with himself", x -> x.quarrel(1, 1, true), false);
        forgetting("HOURS that can't be", x -> x.hours(9), false);
        forgetting("an EVENING that can't be", x -> x.evening(), false);
        forgetting("what is asked", x -> {
            x.of(0, 10);
            x.shade(0, 0);
            x.book(0, 0);
            x.walk(0, 11, 0);
            x.fewest(0, 11);
            x.turn(0, 1, 0);
            x.halts(3, 1, 0);
            x.thief(0);
            x.fault(0);
        }, false);
    }

    private static void forgottenGoesOn() {
        t.sentence("forgets them: later HOURS can be undone, earlier ones can't");
        SevenToAShadow x = new SevenToAShadow();
        x.hours(3);
        x.set(0, 1);
        x.hours(2);
        t.due("two", x.look(9), 2);
        t.due("undo", x.undo(), true);
        t.due("undo", x.undo(), true);
        t.due("no third", x.undo(), false);
        t.due("NOW", x.look(1), 3);
    }

    private static void imageNone() {
        t.sentence("THE IMAGE is gone back to: false if there is none");
        SevenToAShadow x = new SevenToAShadow();
        t.due("none", x.image(false), false);
        x.pilgrim(0, 0, 1, 0, 0);
        t.due("none", x.image(false), false);
        t.due("nothing is changed", x.look(2), 1);
        t.due("taken", x.image(true), true);
        t.due("there is one", x.image(false), true);
        SevenToAShadow empty = new SevenToAShadow();
        t.due("of nobody", empty.image(true), true);
        empty.pilgrim(0, 0, 1, 0, 0);
        t.due("gone back", empty.image(false), true);
        t.due("nobody", empty.look(2), 0);
        t.due("nobody of whom to ask", empty.of(0, 0), NONE);
    }

    /** All that is told is told otherwise. */
    private static void tellOtherwise(SevenToAShadow x) {
        for (int h = 0; h < 12; h++) {
            for (int k = 0; k < 5; k++) {
                x.hour(h, k, x.look(10 + 5 * h + k) == 0 ? 1 : 0);
            }
        }
        x.set(0, 50);
        x.set(1, 50);
        for (int p = 0; p < 4; p++) {
            x.give(p, 0, p);
            x.give(p, 1, 1 - x.of(p, 5));
            x.give(p, 2, 1 - x.of(p, 6));
            x.give(p, 3, 1234);
            x.told(p, 4321);
        }
        x.quarrel(1, 3, false);
        x.quarrel(0, 2, true);
        x.pilgrim(20, 9, 3, 9, 9);
        x.state(1);
        Checks.rules(x, "flee; stay; stay; stay; stay;");
        x.hours(12 - x.look(1));
        x.evening();
        x.hours(3);
    }

    private static void imageAsItWas() {
        t.sentence("THE IMAGE: all that is and was told .. as it was when it was taken");
        SevenToAShadow x = Checks.scene();
        x.set(0, 3);
        x.image(true);
        tellOtherwise(x);
        t.due("gone back", x.image(false), true);
        Checks.rules(x, "stay; 1");
        Checks.feedText(x, "stay;seek;stay;flee;");
        SevenToAShadow twin = Checks.scene();
        twin.set(0, 3);
        twin.image(true);
        t.alike("going back", Checks.wayOfWorld(x), Checks.wayOfWorld(twin));
    }

    private static void imageOfWhatIsNotLookedAt() {
        t.sentence("THE IMAGE: all that is: QUARRELS, FIGHTS, the lines of THE BOOK, what RULES say");
        SevenToAShadow x = new SevenToAShadow();
        x.pilgrim(12, 0, 1, 1, 0);
        x.pilgrim(13, 0, 1, 2, 0);
        x.quarrel(0, 1, true);
        x.hours(2);
        Checks.rules(x, "flee when pilgrim = 1 and hour = 2; stay;");
        x.image(true);
        x.undo();
        x.undo();
        x.quarrel(0, 1, false);
        x.hour(0, 2, 9);
        Checks.rules(x, "flee when pilgrim = 0 and hour = 9; stay;");
        x.hours(2);
        t.due("another line", x.book(0, 3), 9);
        t.due("no FIGHTS", x.look(3), 0);
        x.image(false);
        int[][] lines = {{0, 0, 0, 1}, {1, 0, 0, 2}, {0, 0, 1, 2}, {1, 0, 1, 4}};
        for (int i = 0; i < 4; i++) {
            for (int what = 0; what < 4; what++) {
                t.due("book(" + i + ", " + what + ")", x.book(i, what), lines[i][what]);
            }
        }
        t.due("FIGHTS", x.look(3), 2);
        x.hours(1);
        t.due("1 flees by the line of then", x.of(1, 0) != 13, true);
        t.due("0 stays", x.of(0, 0), 12);
    }

    private static void imageForgetsLaterOnes() {
        t.sentence("THE IMAGE: all that is: one who comes then is as one who comes at first");
        SevenToAShadow x = new SevenToAShadow();
        x.pilgrim(0, 0, 1, 1, 9);
        x.image(true);
        for (int p = 1; p < 10; p++) {
            x.pilgrim(p, 9, 3, 9, 99);
            x.give(p, 1, p % 2);
            x.give(p, 2, 1 - p % 2);
            x.quarrel(0, p, true);
            x.quarrel(p, p - 1, true);
            x.told(p, 5);
        }
        x.hours(12);
        x.image(false);
        for (int p = 1; p < 10; p++) {
            t.due("his number", x.pilgrim(p, 0, 1, 1, 0), p);
            for (int what = 5; what < 10; what++) {
                t.due("of(" + p + ", " + what + ")", x.of(p, what), 0);
            }
            t.due("nothing TOLD", x.look(80 + p), NONE);
        }
        t.due("all burn", x.hours(1), 10);
        t.due("nobody QUARRELS", x.look(3), 0);
    }

    private static void imageMoreThanOnce() {
        t.sentence("gone back to it may be more than once");
        SevenToAShadow x = new SevenToAShadow();
        x.pilgrim(0, 0, 1, 1, 0);
        x.hours(2);
        x.image(true);
        for (int time = 0; time < 4; time++) {
            x.hours(10);
            x.evening();
            x.pilgrim(1 + time, 0, 1, 0, 0);
            t.due("gone back", x.image(false), true);
            t.due("BURN", x.of(0, 7), 3);
            t.due("NOW", x.look(1), 2);
            t.due("DAY", x.look(0), 0);
            t.due("PILGRIMS", x.look(2), 1);
            t.due("lines", x.look(4), 2);
        }
        t.due("at once again", x.image(false), true);
        t.due("NOW", x.look(1), 2);
    }

    private static void imageTakenAnew() {
        t.sentence("THE IMAGE is taken (true): the latest is the one");
        SevenToAShadow x = new SevenToAShadow();
        x.image(true);
        x.hours(1);
        x.image(true);
        x.hours(1);
        x.image(false);
        t.due("NOW", x.look(1), 1);
        x.image(false);
        t.due("NOW", x.look(1), 1);
    }

    private static void imageButTape() {
        t.sentence("but the TAPE, fault()");
        SevenToAShadow x = new SevenToAShadow();
        Checks.rules(x, "stay; .");
        Checks.feedText(x, "seek;");
        x.image(true);
        Checks.rules(x, "buy; buy when 1/0=1;");
        Checks.feedText(x, "stay;stay;stay;");
        x.image(false);
        t.due("fault(0) is of the latest text()", x.fault(0), 2);
        t.due("fault(1)", x.fault(1), 16);
        t.due("the TAPE has no more", x.end(16), false);
        t.due("the TAPE has as many", x.end(15), true);
        t.due("its lines", x.text(), 3);
        t.due("no fault", x.fault(0), 0);
        x.image(false);
        t.due("RULES are the image's", x.look(8), 0);
        t.due("the TAPE is empty", x.end(1), false);
    }

    private static void imageNothingUndone() {
        t.sentence("and what can be undone (nothing then)");
        SevenToAShadow x = new SevenToAShadow();
        x.hours(5);
        x.image(true);
        t.due("taking it leaves what can be undone", x.look(9), 5);
        t.due("undo", x.undo(), true);
        x.image(false);
        t.due("nothing", x.look(9), 0);
        t.due("undo", x.undo(), false);
        t.due("NOW", x.look(1), 5);
        x.hours(2);
        t.due("what came since", x.look(9), 2);
        x.undo();
        x.undo();
        t.due("no more", x.undo(), false);
        t.due("NOW", x.look(1), 5);
    }
}
