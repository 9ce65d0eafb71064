import java.util.function.Supplier;
import java.util.function.ToIntFunction;

/** The sections "Promise 1" to "Promise 25": each call over all its arguments' bounds, and what it leaves as it was. */
public final class PromiseBoundsTest {
    private static final int MIN = Checks.MIN;
    private static final int MAX = Checks.MAX;
    private static final int NONE = Checks.NONE;
    private static final Checks t = new Checks("PromiseBoundsTest");

    public static void main(String[] args) {
        newObject();
        state();
        hour();
        set();
        pilgrim();
        pilgrimTen();
        give();
        giveTwoValues();
        quarrel();
        quarrelBothWays();
        feed();
        feedFull();
        feedHighestFirst();
        end();
        endChangesNothing();
        text();
        fault();
        hours();
        hoursTogether();
        evening();
        of();
        ofShaded();
        shade();
        book();
        walk();
        fewest();
        turn();
        halts();
        told();
        thief();
        undo();
        image();
        look();
        lookCrowd();
        t.finish();
    }

    private static int bit(boolean answer) {
        return answer ? 1 : 0;
    }

    private static void same(String call, ToIntFunction<SevenToAShadow> done, int answer) {
        t.changesNothing(call, Checks::scene, done, answer);
    }

    private static SevenToAShadow crowd(int many) {
        SevenToAShadow x = new SevenToAShadow();
        for (int p = 0; p < many; p++) {
            x.pilgrim(2 * p, 0, 1, 1, p);
        }
        return x;
    }

    private static void newObject() {
        t.sentence("Promise 1: Nobody there");
        SevenToAShadow x = new SevenToAShadow();
        for (int p : Checks.around(0, 9)) {
            t.due("of " + p, x.of(p, 0), NONE);
            t.due("SHADED " + p, x.of(p, 10), NONE);
            t.due("give " + p, x.give(p, 3, 0), false);
            t.due("told " + p, x.told(p, 0), false);
            t.due("quarrel " + p, x.quarrel(p, 0, true), false);
        }
        t.due("shade", Checks.shadeIn(x, 0), 0);
        int[] want = {0, 0, 0, 0, 0, 0, 5, 0, 0, 0};
        for (int what = 0; what < 10; what++) {
            t.due("look(" + what + ")", x.look(what), want[what]);
        }
        t.due("no TAPE", x.end(1), false);
        t.due("no FAULT", x.fault(0), 0);
        t.due("no place of one", x.fault(1), NONE);
        SevenToAShadow other = new SevenToAShadow();
        other.pilgrim(0, 0, 1, 0, 0);
        other.state(9);
        t.due("two objects are two", x.look(2) + x.look(5), 0);
    }

    private static void state() {
        t.sentence("Promise 2: STATE is told: what it was");
        SevenToAShadow x = new SevenToAShadow();
        t.due("0 at first", x.state(MAX), 0);
        t.due("MAX", x.state(MIN), MAX);
        t.due("MIN", x.state(-1), MIN);
        t.due("-1", x.state(-1), -1);
        t.due("-1 again", x.look(5), -1);
        same("state() as it was", y -> y.state(y.look(5)), Checks.scene().look(5));
    }

    private static void hour() {
        t.sentence("Promise 3: false if one can't be, or another what");
        int[] most = {7, 4, 9, 7, 10};
        for (int h : new int[] {MIN, -1, 0, 11, 12, MAX}) {
            for (int what : Checks.around(0, 4)) {
                SevenToAShadow x = new SevenToAShadow();
                for (int v : Checks.around(0, 10)) {
                    boolean can = Checks.in(h, 0, 11) && Checks.in(what, 0, 4) && Checks.in(v, 0, most[what]);
                    t.due("hour(" + h + ", " + what + ", " + v + ")", x.hour(h, what, v), can);
                    t.due("it is told", !can || x.look(10 + 5 * h + what) == v, true);
                }
            }
        }
        same("hour(-1, 0, 1)", x -> bit(x.hour(-1, 0, 1)), 0);
        same("hour(12, 0, 1)", x -> bit(x.hour(12, 0, 1)), 0);
        same("hour(4, -1, 1)", x -> bit(x.hour(4, -1, 1)), 0);
        same("hour(4, 5, 1)", x -> bit(x.hour(4, 5, 1)), 0);
        for (int k = 0; k < 5; k++) {
            int what = k;
            same("hour(4, " + k + ", -1)", x -> bit(x.hour(4, what, -1)), 0);
            same("hour(4, " + k + ", one too many)", x -> bit(x.hour(4, what, most[what] + 1)), 0);
        }
        SevenToAShadow x = new SevenToAShadow();
        x.hour(5, 2, 0);
        t.due("the HOUR before is as it was", x.look(10 + 20 + 2), 5);
        t.due("the HOUR after is as it was", x.look(10 + 30 + 2), 5);
        t.due("the ALTITUDE of it is as it was", x.look(10 + 25 + 1), 4);
        t.due("the ROAD of it is as it was", x.look(10 + 25 + 3), 0);
        x.hours(12);
        t.due("an HOUR that went by can be told", x.hour(0, 0, 0), true);
    }

    private static void set() {
        t.sentence("Promise 4: What 0 PRICE, 1 REST: true; false if one can't be, or another what");
        for (int what : Checks.around(0, 1)) {
            SevenToAShadow x = new SevenToAShadow();
            int price = 5;
            int rest = 0;
            for (int v : new int[] {MIN, -1, 0, 1, 98, 99, 100, MAX, 0}) {
                boolean can = Checks.in(what, 0, 1) && Checks.in(v, 0, 99);
                t.due("set(" + what + ", " + v + ")", x.set(what, v), can);
                price = can && what == 0 ? v : price;
                rest = can && what == 1 ? v : rest;
                t.due("PRICE", x.look(6), price);
                t.due("REST", x.look(7), rest);
            }
        }
        same("set(0, 100)", x -> bit(x.set(0, 100)), 0);
        same("set(0, -1)", x -> bit(x.set(0, -1)), 0);
        same("set(1, 100)", x -> bit(x.set(1, 100)), 0);
        same("set(1, -1)", x -> bit(x.set(1, -1)), 0);
        same("set(2, 1)", x -> bit(x.set(2, 1)), 0);
        same("set(-1, 1)", x -> bit(x.set(-1, 1)), 0);
    }

    private static void pilgrim() {
        t.sentence("Promise 5: NONE if one can't be (another one is there)");
        same("PLACE -1", x -> x.pilgrim(-1, 0, 1, 0, 0), NONE);
        same("PLACE 25", x -> x.pilgrim(25, 0, 1, 0, 0), NONE);
        same("TALL -1", x -> x.pilgrim(0, -1, 1, 0, 0), NONE);
        same("TALL 10", x -> x.pilgrim(0, 10, 1, 0, 0), NONE);
        same("GIRTH 0", x -> x.pilgrim(0, 0, 0, 0, 0), NONE);
        same("GIRTH 4", x -> x.pilgrim(0, 0, 4, 0, 0), NONE);
        same("SKIN -1", x -> x.pilgrim(0, 0, 1, -1, 0), NONE);
        same("SKIN 10", x -> x.pilgrim(0, 0, 1, 10, 0), NONE);
        same("WATER -1", x -> x.pilgrim(0, 0, 1, 0, -1), NONE);
        same("WATER 10000", x -> x.pilgrim(0, 0, 1, 0, 10000), NONE);
        same("far off", x -> x.pilgrim(MIN, MAX, MIN, MAX, MIN), NONE);
        for (int p = 0; p < 4; p++) {
            int who = p;
            same("the PLACE of " + p, x -> x.pilgrim(x.of(who, 0), 0, 1, 0, 0), NONE);
        }
        SevenToAShadow x = new SevenToAShadow();
        t.due("all least", x.pilgrim(0, 0, 1, 0, 0), 0);
        t.due("all most", x.pilgrim(24, 9, 3, 9, 9999), 1);
        t.due("where one went away", x.give(0, 0, 1), true);
        t.due("another may come", x.pilgrim(0, 0, 1, 0, 0), 2);
    }

    private static void pilgrimTen() {
        t.sentence("Promise 5: NONE .. or there are ten");
        t.changesNothing("an eleventh", Checks::fullScene, x -> x.pilgrim(20, 0, 1, 0, 0), NONE);
        SevenToAShadow x = crowd(9);
        t.due("the tenth", x.pilgrim(24, 0, 1, 0, 0), 9);
        t.due("the eleventh", x.pilgrim(23, 0, 1, 0, 0), NONE);
        t.due("the eleventh", x.pilgrim(1, 0, 1, 0, 0), NONE);
        t.due("ten", x.look(2), 10);
    }

    private static void give() {
        t.sentence("Promise 6: false if one can't be, or another what");
        int[] most = {24, 1, 1, 9999};
        for (int p : Checks.around(0, 2)) {
            for (int what : Checks.around(0, 3)) {
                for (int v : new int[] {MIN, -1, 0, 1, 2, 3, 24, 25, 9999, 10000, MAX}) {
                    SevenToAShadow x = crowd(3);
                    boolean can = Checks.in(p, 0, 2) && Checks.in(what, 0, 3) && Checks.in(v, 0, most[what]);
                    boolean taken = what == 0 && (v == 0 || v == 2 || v == 4) && v != 2 * p;
                    t.due("give(" + p + ", " + what + ", " + v + ")", x.give(p, what, v), can && !taken);
                    int column = what == 0 ? 0 : what == 1 ? 5 : what == 2 ? 6 : 4;
                    if (can && !taken) {
                        t.due("he has it", x.of(p, column), v);
                    }
                }
            }
        }
        same("nobody -1", x -> bit(x.give(-1, 3, 1)), 0);
        same("nobody 4", x -> bit(x.give(4, 3, 1)), 0);
        same("another's PLACE", x -> bit(x.give(0, 0, x.of(3, 0))), 0);
        same("PLACE -1", x -> bit(x.give(0, 0, -1)), 0);
        same("PLACE 25", x -> bit(x.give(0, 0, 25)), 0);
        same("PARASOL 2", x -> bit(x.give(0, 1, 2)), 0);
        same("PARASOL -1", x -> bit(x.give(0, 1, -1)), 0);
        same("HAT 2", x -> bit(x.give(0, 2, 2)), 0);
        same("HAT -1", x -> bit(x.give(0, 2, -1)), 0);
        same("WATER -1", x -> bit(x.give(0, 3, -1)), 0);
        same("WATER 10000", x -> bit(x.give(0, 3, 10000)), 0);
        same("what 4", x -> bit(x.give(0, 4, 1)), 0);
        same("what -1", x -> bit(x.give(0, -1, 1)), 0);
    }

    private static void giveTwoValues() {
        t.sentence("Promise 6: his PLACE (a free one, or his own), a PARASOL (0, 1), a HAT (0, 1), WATER");
        SevenToAShadow x = crowd(2);
        int[][] gifts = {{0, 24, 0}, {0, 24, 0}, {0, 0, 0}, {1, 1, 5}, {1, 1, 5}, {1, 0, 5}, {2, 1, 6}, {2, 0, 6},
            {2, 0, 6}, {3, 9999, 4}, {3, 0, 4}};
        for (int[] gift : gifts) {
            t.due("give(0, " + gift[0] + ", " + gift[1] + ")", x.give(0, gift[0], gift[1]), true);
            t.due("he has it", x.of(0, gift[2]), gift[1]);
        }
        int[][] both = {{1, 1, 1, 0}, {2, 1, 1, 1}, {1, 1, 1, 1}, {1, 0, 0, 1}, {1, 1, 1, 1}, {2, 0, 1, 0}};
        for (int[] gift : both) {
            x.give(0, gift[0], gift[1]);
            t.due("PARASOL after " + gift[0] + ", " + gift[1], x.of(0, 5), gift[2]);
            t.due("HAT after " + gift[0] + ", " + gift[1], x.of(0, 6), gift[3]);
        }
        int[] row = {2, 0, 1, 1, 1, 0, 0, 0, 0, 0};
        for (int what = 0; what < 10; what++) {
            t.due("of the other, " + what, x.of(1, what), row[what]);
        }
    }

    private static void quarrel() {
        t.sentence("Promise 7: Two unlike ones QUARREL or not: true; false if one can't be");
        for (int a : Checks.around(0, 3)) {
            SevenToAShadow x = crowd(4);
            for (int b : Checks.around(0, 3)) {
                boolean can = Checks.in(a, 0, 3) && Checks.in(b, 0, 3) && a != b;
                t.due("quarrel(" + a + ", " + b + ", true)", x.quarrel(a, b, true), can);
                t.due("quarrel(" + a + ", " + b + ", false)", x.quarrel(a, b, false), can);
            }
        }
        same("with himself", x -> bit(x.quarrel(3, 3, true)), 0);
        same("not with himself", x -> bit(x.quarrel(1, 1, false)), 0);
        same("nobody 4", x -> bit(x.quarrel(1, 4, true)), 0);
        same("nobody 4", x -> bit(x.quarrel(4, 1, false)), 0);
        same("nobody -1", x -> bit(x.quarrel(-1, 3, false)), 0);
        same("nobody -1", x -> bit(x.quarrel(3, -1, true)), 0);
        SevenToAShadow x = new SevenToAShadow();
        for (int p = 0; p < 10; p++) {
            x.pilgrim(p < 5 ? p : p + 5, 0, 1, 0, 0);
        }
        t.due("the first and the last", x.quarrel(0, 9, true), true);
        x.give(9, 0, 5);
        x.hours(1);
        t.due("they fight", x.look(3), 1);
        x.quarrel(9, 0, false);
        x.hours(1);
        t.due("no more", x.look(3), 1);
    }

    private static void quarrelBothWays() {
        t.sentence("Promise 7: Two unlike ones QUARREL or not, in whatever order they are told");
        for (int told = 0; told < 2; told++) {
            for (int ended = 0; ended < 2; ended++) {
                for (int flees = 0; flees < 2; flees++) {
                    SevenToAShadow x = new SevenToAShadow();
                    x.pilgrim(12, 0, 1, 0, 0);
                    x.pilgrim(13, 0, 1, 0, 0);
                    int place = x.of(flees, 0);
                    x.quarrel(told, 1 - told, true);
                    x.hours(1);
                    t.due("they fight", x.look(3), 1);
                    Checks.rules(x, "flee when pilgrim = " + flees + ";");
                    x.hours(1);
                    t.due("he flees", x.of(flees, 0) != place, true);
                    x.give(flees, 0, place);
                    x.quarrel(ended, 1 - ended, false);
                    x.hours(1);
                    t.due("he flees no more", x.of(flees, 0), place);
                    t.due("they fight no more", x.look(3), 1);
                }
            }
        }
    }

    private static void feed() {
        t.sentence("Promise 8: Twenty bytes come behind the TAPE: how many it has");
        SevenToAShadow x = new SevenToAShadow();
        for (int n = 20; n <= 400; n += 20) {
            t.due("feed", x.feed(MIN, MAX, -1, 0, 1), n);
        }
        t.due("400 are", x.end(400), true);
        x.end(7);
        t.due("behind those that are left", x.feed(0, 0, 0, 0, 0), 27);
    }

    private static void feedFull() {
        t.sentence("Promise 8: NONE, and nothing comes, if there would be more than 400");
        for (int has : new int[] {379, 380, 381, 399, 400}) {
            SevenToAShadow x = new SevenToAShadow();
            Checks.feedText(x, " ".repeat(has));
            t.due("feed behind " + has, x.feed(0, 0, 0, 0, 0), has > 380 ? NONE : has + 20);
            t.due("it has no more", x.end((has > 380 ? has : has + 20) + 1), false);
            t.due("it has as many", x.end(has > 380 ? has : has + 20), true);
            t.due("what it has can be read, if nothing came", x.text(), has > 380 ? 0 : NONE);
        }
        Supplier<SevenToAShadow> full = () -> {
            SevenToAShadow x = Checks.scene();
            Checks.feedText(x, "stay;".repeat(16) + " ".repeat(301));
            return x;
        };
        t.changesNothing("feed of 381", full, x -> x.feed(1, 2, 3, 4, 5), NONE);
        SevenToAShadow x = full.get();
        x.feed(1, 2, 3, 4, 5);
        t.due("it is as it was", x.end(382), false);
        t.due("it is as it was", x.end(381), true);
        t.due("it is as it was", x.text(), 16);
    }

    private static void feedHighestFirst() {
        t.sentence("Promise 8: of each number the highest first");
        SevenToAShadow x = new SevenToAShadow();
        x.feed(0x73746179, 0x3b736565, 0x6b3b6275, 0x793b666c, 0x65653b20);
        t.due("stay;seek;buy;flee;", x.text(), 4);
        x.feed(0x73746179, 0x20202020, 0x20202020, 0x20202020, 0x2020203b);
        t.due("the last byte is the last number's lowest", x.text(), 1);
        x.feed(0x73746179, 0x20202020, 0x20202020, 0x20202020, 0x3b2020ff);
        t.due("a byte above 127", x.text(), NONE);
        t.due("its place", x.fault(1), 19);
        x.feed(0x80737461, 0x793b2020, 0, 0, 0);
        t.due("a number below 0", x.text(), NONE);
        t.due("its place", x.fault(1), 0);
    }

    private static void end() {
        t.sentence("Promise 9: The TAPE has its first n bytes alone");
        SevenToAShadow x = new SevenToAShadow();
        t.due("0 of none", x.end(0), true);
        t.due("1 of none", x.end(1), false);
        t.due("-1 of none", x.end(-1), false);
        for (int n : Checks.around(0, 40)) {
            SevenToAShadow y = new SevenToAShadow();
            Checks.feedText(y, "stay;".repeat(8));
            t.due("end(" + n + ") of 40", y.end(n), Checks.in(n, 0, 40));
            int has = Checks.in(n, 0, 40) ? n : 40;
            t.due("no more then", y.end(has + 1), false);
            t.due("so many then", y.end(has), true);
            t.due("the first ones", y.text(), has % 5 == 0 ? has / 5 : NONE);
        }
    }

    private static void endChangesNothing() {
        t.sentence("Promise 9: false, changing nothing, if it has not so many, or n is below 0");
        same("end(21)", x -> bit(x.end(21)), 0);
        same("end(400)", x -> bit(x.end(400)), 0);
        same("end(MAX)", x -> bit(x.end(MAX)), 0);
        same("end(-1)", x -> bit(x.end(-1)), 0);
        same("end(MIN)", x -> bit(x.end(MIN)), 0);
        same("end(20), all that it has", x -> bit(x.end(20)), 1);
    }

    private static void text() {
        t.sentence("Promise 10: The TAPE, empty then, is RULES: how many lines. NONE: a FAULT (it stays as it was)");
        SevenToAShadow x = new SevenToAShadow();
        t.due("an empty one", x.text(), 0);
        Checks.feedText(x, "stay;seek;");
        t.due("two lines", x.text(), 2);
        t.due("empty then", x.end(1), false);
        t.due("two lines", x.look(8), 2);
        Checks.feedText(x, "stay;seek;stay");
        t.due("a FAULT", x.text(), NONE);
        t.due("empty then, too", x.end(1), false);
        t.due("two lines still", x.look(8), 2);
        t.due("an empty one", x.text(), 0);
        t.due("no lines", x.look(8), 0);
        for (int lines = 0; lines <= 17; lines++) {
            SevenToAShadow y = new SevenToAShadow();
            Checks.rules(y, "buy;buy;buy;");
            t.due(lines + " lines", Checks.rules(y, "stay;".repeat(lines)), lines > 16 ? NONE : lines);
            t.due("look(8)", y.look(8), lines > 16 ? 3 : lines);
        }
    }

    private static void fault() {
        t.sentence("Promise 11: Of the latest text(): the FAULT (0 without one), its place (NONE). NONE for another what");
        SevenToAShadow x = new SevenToAShadow();
        for (int what : Checks.around(0, 1)) {
            t.due("none yet: fault(" + what + ")", x.fault(what), what == 0 ? 0 : NONE);
        }
        Checks.rules(x, "stay when 1/0=1;");
        for (int what : Checks.around(0, 1)) {
            t.due("fault(" + what + ")", x.fault(what), what == 0 ? 2 : what == 1 ? 12 : NONE);
        }
        Checks.feedText(x, "stay");
        t.due("the TAPE alone changes nothing", x.fault(0), 2);
        x.text();
        t.due("the latest", x.fault(0), 1);
        t.due("the latest", x.fault(1), 4);
        Checks.rules(x, "");
        t.due("without one", x.fault(0), 0);
        t.due("without one", x.fault(1), NONE);
        Checks.rules(x, ".");
        t.due("at the first byte", x.fault(1), 0);
        for (int what : new int[] {MIN, -1, 0, 1, 2, MAX}) {
            same("fault(" + what + ")", y -> y.fault(what), what == 0 ? 1 : what == 1 ? 6 : NONE);
        }
    }

    private static void hours() {
        t.sentence("Promise 12: HOURS go by (1 .. 12). NONE, and nothing is done, if one can't be, or NOW would be above 12");
        for (int now = 0; now <= 12; now++) {
            for (int n : Checks.around(1, 12)) {
                SevenToAShadow x = new SevenToAShadow();
                if (now > 0) {
                    x.hours(now);
                }
                boolean can = Checks.in(n, 1, 12) && now + n <= 12;
                t.due("hours(" + n + ") at NOW " + now, x.hours(n), can ? 0 : NONE);
                t.due("NOW", x.look(1), can ? now + n : now);
                t.due("what can be undone", x.look(9), can ? now + n : now);
            }
        }
        for (int n : new int[] {MIN, -1, 0, 9, 12, 13, MAX}) {
            same("hours(" + n + ") at NOW 4", x -> x.hours(n), NONE);
        }
        t.changesNothing("hours(1) at NOW 12", Checks::lateScene, x -> x.hours(1), NONE);
        t.changesNothing("hours(0) at NOW 12", Checks::lateScene, x -> x.hours(0), NONE);
    }

    private static void hoursTogether() {
        t.sentence("Promise 12: how much all burnt in them");
        SevenToAShadow x = crowd(10);
        t.due("a DAY", x.hours(12), 400);
        x.evening();
        t.due("nobody SHADED, one HOUR", x.hours(1), 10);
        for (int p = 0; p < 10; p++) {
            x.give(p, 2, 1);
        }
        t.due("all SHADED", x.hours(11), 0);
        SevenToAShadow one = Checks.scene();
        SevenToAShadow by = Checks.scene();
        int sum = 0;
        for (int i = 0; i < 8; i++) {
            sum += by.hours(1);
        }
        t.due("eight at once as one by one", one.hours(8), sum);
        t.alike("eight at once", Checks.wayOfWorld(one), Checks.wayOfWorld(by));
        SevenToAShadow most = new SevenToAShadow();
        for (int p = 0; p < 10; p++) {
            most.pilgrim(p, 0, 1, 9, 0);
        }
        for (int h = 0; h < 12; h++) {
            most.hour(h, 2, 9);
        }
        t.due("the most", most.hours(12), 9720);
    }

    private static void evening() {
        t.sentence("Promise 13: NONE, and nothing is done, if NOW is not 12");
        same("evening() at NOW 4", x -> x.evening(), NONE);
        t.changesNothing("evening() at NOW 11", () -> {
            SevenToAShadow x = Checks.scene();
            x.hours(7);
            return x;
        }, x -> x.evening(), NONE);
        t.changesNothing("evening() at NOW 0", () -> {
            SevenToAShadow x = Checks.lateScene();
            x.evening();
            return x;
        }, x -> x.evening(), NONE);
        SevenToAShadow x = Checks.lateScene();
        t.due("at NOW 12", x.evening(), 2);
    }

    private static void of() {
        t.sentence("Promise 14: NONE if there is none such, or another what");
        for (int many : new int[] {0, 1, 10}) {
            for (int p : new int[] {MIN, -1, 0, many - 1, many, 9, 10, MAX}) {
                SevenToAShadow x = crowd(many);
                for (int what : Checks.around(0, 10)) {
                    boolean can = Checks.in(p, 0, many - 1) && Checks.in(what, 0, 10);
                    int[] row = {2 * p, 0, 1, 1, p, 0, 0, 0, 0, 0, 0};
                    t.due("of(" + p + ", " + what + ") of " + many, x.of(p, what), can ? row[what] : NONE);
                }
            }
        }
        for (int what = -1; what <= 11; what++) {
            int asked = what;
            same("of(1, " + what + ")", x -> x.of(1, asked), Checks.scene().of(1, what));
        }
        ofEachItsOwn();
    }

    /** WAY 6: 12 bears a PARASOL and shades 11; who stands at 24 burns in HOUR 0 and buys that shade in HOUR 1. */
    private static void ofEachItsOwn() {
        SevenToAShadow x = new SevenToAShadow();
        x.pilgrim(24, 1, 2, 3, 40);
        x.pilgrim(11, 4, 3, 9, 7);
        x.pilgrim(12, 3, 1, 8, 0);
        x.give(2, 1, 1);
        x.hours(1);
        Checks.rules(x, "buy when pilgrim = 0;");
        x.hours(1);
        int[][] want = {{11, 1, 2, 3, 35, 0, 0, 3, 0, 1}, {24, 4, 3, 9, 12, 0, 0, 18, 1, 0},
            {12, 3, 1, 8, 0, 1, 0, 0, 0, 0}};
        for (int p = 0; p < 3; p++) {
            for (int what = 0; what < 10; what++) {
                t.due("of(" + p + ", " + what + ")", x.of(p, what), want[p][what]);
            }
        }
        x.give(1, 2, 1);
        t.due("a HAT", x.of(1, 6), 1);
    }

    private static void ofShaded() {
        t.sentence("Promise 14: 1 if he is SHADED in the HOUR of NOW (0 at 12), else 0");
        SevenToAShadow x = new SevenToAShadow();
        x.pilgrim(12, 0, 1, 0, 0);
        x.pilgrim(11, 0, 1, 0, 0);
        x.pilgrim(13, 0, 1, 0, 0);
        x.pilgrim(24, 0, 1, 0, 0);
        x.give(0, 1, 1);
        x.give(3, 2, 1);
        for (int now = 0; now <= 12; now++) {
            t.due("the bearer at " + now, x.of(0, 10), now < 12 ? 1 : 0);
            t.due("11 at " + now, x.of(1, 10), now < 2 ? 1 : 0);
            t.due("13 at " + now, x.of(2, 10), now == 10 || now == 11 ? 1 : 0);
            t.due("who has a HAT at " + now, x.of(3, 10), now < 12 ? 1 : 0);
            x.hours(1);
        }
        x.evening();
        t.due("11 at 0 again", x.of(1, 10), 1);
    }

    private static void shade() {
        t.sentence("Promise 15: Whether a PLACE is shaded by anybody in an HOUR: 1 or 0; NONE if one can't be");
        for (int h : Checks.around(0, 11)) {
            SevenToAShadow x = new SevenToAShadow();
            x.pilgrim(24, 0, 1, 0, 0);
            x.give(0, 1, 1);
            for (int place : Checks.around(0, 24)) {
                boolean can = Checks.in(h, 0, 11) && Checks.in(place, 0, 24);
                int answer = x.shade(place, h);
                t.due("shade(" + place + ", " + h + ") can be", answer != NONE, can);
                t.due("it is 0 or 1", !can || answer == 0 || answer == 1, true);
                t.due("the bearer's own", !can || place != 24 || answer == 1, true);
            }
        }
        SevenToAShadow x = new SevenToAShadow();
        x.pilgrim(12, 5, 1, 0, 0);
        t.due("by who is TALL", x.shade(11, 0), 1);
        t.due("not his own PLACE", x.shade(12, 0), 0);
        x.hours(12);
        t.due("standing as now, whatever NOW is", x.shade(11, 0), 1);
        same("shade(25, 0)", y -> y.shade(25, 0), NONE);
        same("shade(0, 12)", y -> y.shade(0, 12), NONE);
        same("shade(12, 3)", y -> y.shade(12, 3), 1);
    }

    private static void book() {
        t.sentence("Promise 16: NONE if there is none such, or another what");
        SevenToAShadow x = crowd(3);
        for (int what : Checks.around(0, 3)) {
            t.due("an empty one: book(0, " + what + ")", x.book(0, what), NONE);
        }
        x.hours(2);
        for (int i : Checks.around(0, 5)) {
            for (int what : Checks.around(0, 3)) {
                boolean can = Checks.in(i, 0, 5) && Checks.in(what, 0, 3);
                int[] row = {i % 3, 0, i / 3, i / 3 + 1};
                t.due("book(" + i + ", " + what + ")", x.book(i, what), can ? row[what] : NONE);
            }
        }
        x.undo();
        t.due("the last that is left", x.book(2, 0), 2);
        t.due("one that was undone", x.book(3, 0), NONE);
        same("book(0, 4)", y -> y.book(0, 4), NONE);
        same("book(-1, 0)", y -> y.book(-1, 0), NONE);
        same("book(MAX, MAX)", y -> y.book(MAX, MAX), NONE);
    }

    private static void walk() {
        t.sentence("Promise 17: NONE if one can't be, or another what");
        for (int from : Checks.around(0, 11)) {
            SevenToAShadow x = crowd(3);
            for (int to : Checks.around(0, 11)) {
                for (int what : new int[] {MIN, -1, 0, 1, 2, 9, 10, 12, 13, 20, MAX}) {
                    boolean hours = from >= 0 && from <= to && to <= 11;
                    boolean can = hours && (what == 0 || what == 1 || what == 10 || what == 12);
                    t.due("walk(" + from + ", " + to + ", " + what + ")", x.walk(from, to, what) != NONE, can);
                }
            }
        }
        SevenToAShadow ten = crowd(10);
        t.due("the tenth", ten.walk(0, 0, 19), 9);
        t.due("an eleventh", ten.walk(0, 0, 20), NONE);
        SevenToAShadow none = crowd(0);
        t.due("nobody", none.walk(0, 0, 10), NONE);
        for (int what = 0; what < 15; what++) {
            int asked = what;
            same("walk(0, 11, " + what + ")", x -> x.walk(0, 11, asked), Checks.scene().walk(0, 11, what));
        }
        same("walk(3, 2, 0)", x -> x.walk(3, 2, 0), NONE);
    }

    private static void fewest() {
        t.sentence("Promise 18: FEWEST PARASOLS, as a set; NONE if one can't be");
        SevenToAShadow x = crowd(1);
        for (int from : Checks.around(0, 11)) {
            for (int to : Checks.around(0, 11)) {
                boolean can = from >= 0 && from <= to && to <= 11;
                t.due("fewest(" + from + ", " + to + ")", x.fewest(from, to), can ? 1 : NONE);
            }
        }
        same("fewest(0, 11)", y -> y.fewest(0, 11), Checks.scene().fewest(0, 11));
        same("fewest(0, 12)", y -> y.fewest(0, 12), NONE);
        t.changesNothing("fewest of ten", Checks::fullScene, y -> y.fewest(0, 11), Checks.fullScene().fewest(0, 11));
    }

    private static void turn() {
        t.sentence("Promise 19: NONE - 99999 if one can't be, or another what");
        for (int h : Checks.around(0, 11)) {
            SevenToAShadow x = crowd(2);
            for (int r : Checks.around(0, 7)) {
                for (int what : Checks.around(0, 1)) {
                    boolean can = Checks.in(h, 0, 11) && Checks.in(r, 0, 7) && Checks.in(what, 0, 1);
                    t.due("turn(" + h + ", " + r + ", " + what + ")", x.turn(h, r, what), can ? 0 : -100000);
                }
            }
        }
        for (int r = -1; r <= 8; r++) {
            int road = r;
            same("turn(5, " + r + ", 0)", x -> x.turn(5, road, 0), Checks.scene().turn(5, r, 0));
            same("turn(5, " + r + ", 1)", x -> x.turn(5, road, 1), Checks.scene().turn(5, r, 1));
        }
    }

    private static void halts() {
        t.sentence("Promise 20: NONE if there is no way, one can't be, or another what");
        SevenToAShadow x = new SevenToAShadow();
        for (int what : Checks.around(0, 1)) {
            t.due("what " + what, x.halts(2, 1, what), what == 0 ? 2 : what == 1 ? 2049 : NONE);
        }
        t.due("n 0", x.halts(0, 1, 0), 0);
        t.due("n -1", x.halts(-1, 1, 0), NONE);
        t.due("n 12", x.halts(12, 12, 0), 40);
        t.due("n 13", x.halts(13, 12, 0), NONE);
        t.due("m 1", x.halts(1, 1, 0), 1);
        t.due("m 0", x.halts(0, 0, 0), NONE);
        t.due("m 12", x.halts(0, 12, 1), 0);
        t.due("m 13", x.halts(0, 13, 1), NONE);
        t.due("no way", x.halts(12, 11, 0), NONE);
        t.due("no way", x.halts(12, 11, 1), NONE);
        t.due("no way", x.halts(7, 1, 1), NONE);
        t.due("a way", x.halts(6, 1, 1) != NONE, true);
        same("halts(6, 2, 1)", y -> y.halts(6, 2, 1), Checks.scene().halts(6, 2, 1));
        same("halts(7, 1, 0)", y -> y.halts(7, 1, 0), NONE);
    }

    private static void told() {
        t.sentence("Promise 21: TOLD of a PILGRIM (NONE: none): true; false if one can't be (NONE .. 9999)");
        for (int p : Checks.around(0, 2)) {
            SevenToAShadow x = crowd(3);
            int is = NONE;
            for (int burn : new int[] {MIN, -2, 0, -1, 1, 9998, 9999, 10000, MAX, -2, -1}) {
                boolean can = Checks.in(p, 0, 2) && Checks.in(burn, -1, 9999);
                t.due("told(" + p + ", " + burn + ")", x.told(p, burn), can);
                is = can ? burn : is;
                t.due("it is", Checks.in(p, 0, 2) ? x.look(80 + p) : NONE, is);
            }
        }
        same("told(1, -2)", x -> bit(x.told(1, -2)), 0);
        same("told(1, 10000)", x -> bit(x.told(1, 10000)), 0);
        same("told(4, 0)", x -> bit(x.told(4, 0)), 0);
        same("told(-1, 0)", x -> bit(x.told(-1, 0)), 0);
        same("told(1, 30), as it was", x -> bit(x.told(1, 30)), 1);
    }

    private static void thief() {
        t.sentence("Promise 22: the HOUR, the ROAD of the first (NONE). NONE for another what");
        SevenToAShadow x = crowd(1);
        int[] all = {84, 0, 1, 1};
        int[] none = {0, NONE, NONE, 0};
        for (int what : Checks.around(0, 3)) {
            t.due("thief(" + what + ")", x.thief(what), Checks.in(what, 0, 3) ? all[what] : NONE);
        }
        x.told(0, 9999);
        for (int what : Checks.around(0, 3)) {
            t.due("thief(" + what + ") of none", x.thief(what), Checks.in(what, 0, 3) ? none[what] : NONE);
        }
        for (int what = -1; what <= 4; what++) {
            int asked = what;
            same("thief(" + what + ")", y -> y.thief(asked), Checks.scene().thief(what));
        }
    }

    private static void undo() {
        t.sentence("Promise 23: UNDO: true; false if there is nothing");
        SevenToAShadow x = Checks.scene();
        for (int i = 0; i < 4; i++) {
            t.due("four HOURS since the EVENING", x.undo(), true);
        }
        t.due("nothing", x.undo(), false);
        t.due("DAY", x.look(0), 1);
        t.due("NOW", x.look(1), 0);
        t.changesNothing("undo() of nothing", () -> {
            SevenToAShadow y = Checks.scene();
            y.set(1, 2);
            return y;
        }, y -> bit(y.undo()), 0);
    }

    private static void image() {
        t.sentence("Promise 24: THE IMAGE is taken, or gone back to: true; false if there is none");
        t.changesNothing("image(false) without one", () -> crowd(4), x -> bit(x.image(false)), 0);
        SevenToAShadow x = Checks.scene();
        SevenToAShadow y = Checks.scene();
        t.due("taken", x.image(true), true);
        t.due("taking changes nothing", x.hours(3), y.hours(3));
        for (int p = 0; p < 4; p++) {
            t.due("PLACE of " + p, x.of(p, 0), y.of(p, 0));
        }
        t.due("what can be undone", x.look(9), y.look(9));
    }

    private static void look() {
        t.sentence("Promise 25: NONE - 1 for another what");
        SevenToAShadow x = new SevenToAShadow();
        for (int what : Checks.around(0, 95)) {
            t.due("look(" + what + ") can be", x.look(what) != -2, Checks.in(what, 0, 69));
        }
        same("look(-1)", y -> y.look(-1), -2);
        same("look(70)", y -> y.look(70), -2);
        same("look(79)", y -> y.look(79), -2);
        same("look(84)", y -> y.look(84), -2);
        same("look(81)", y -> y.look(81), 30);
        SevenToAShadow y = new SevenToAShadow();
        int[] most = {7, 4, 9, 7, 10};
        for (int h = 0; h < 12; h++) {
            for (int k = 0; k < 5; k++) {
                y.hour(h, k, (h + k) % (most[k] + 1));
            }
        }
        for (int h = 0; h < 12; h++) {
            for (int k = 0; k < 5; k++) {
                t.due("10 + 5 * " + h + " + " + k, y.look(10 + 5 * h + k), (h + k) % (most[k] + 1));
            }
        }
    }

    private static void lookCrowd() {
        t.sentence("Promise 25: 80 + p TOLD of one (NONE)");
        for (int many = 0; many <= 10; many++) {
            SevenToAShadow x = crowd(many);
            for (int what : Checks.around(80, 89)) {
                boolean is = Checks.in(what, 80, 79 + many);
                t.due("look(" + what + ") of " + many, x.look(what), what == MIN || what == MAX ? -2
                    : is ? NONE : -2);
            }
            for (int p = 0; p < many; p++) {
                x.told(p, 9990 + p);
            }
            for (int p = 0; p < many; p++) {
                t.due("told of " + p, x.look(80 + p), 9990 + p);
            }
        }
    }
}
