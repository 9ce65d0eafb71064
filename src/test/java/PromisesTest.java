/** Each promise of the document by hand: ordinary calls, the edges it names, wrong ones. */
public final class PromisesTest {
    private static final int MIN = Checks.MIN;
    private static final int MAX = Checks.MAX;
    private static final Checks t = new Checks("PromisesTest");

    public static void main(String[] args) {
        newObject();
        state();
        hour();
        set();
        pilgrim();
        give();
        quarrel();
        tape();
        text();
        faults();
        reckoning();
        hours();
        clouds();
        seek();
        flee();
        buy();
        fights();
        evening();
        of();
        shade();
        book();
        walk();
        fewest();
        turn();
        halts();
        toldAndThief();
        undo();
        image();
        look();
        t.finish();
    }

    private static void newObject() {
        t.sentence("promise 1");
        SevenToAShadow x = new SevenToAShadow();
        int[] suns = {2, 2, 3, 3, 4, 4, 4, 4, 5, 5, 6, 6};
        int[] altitudes = {0, 1, 2, 3, 4, 4, 4, 4, 3, 2, 1, 0};
        for (int h = 0; h < 12; h++) {
            int[] row = {suns[h], altitudes[h], altitudes[h] + 1, 0, 0};
            for (int k = 0; k < 5; k++) {
                t.due("look at hour " + h + " column " + k, x.look(10 + 5 * h + k), row[k]);
            }
        }
        t.due("pilgrims", x.look(2), 0);
        t.due("of(0, 0)", x.of(0, 0), -1);
        t.due("price", x.look(6), 5);
        t.due("NONE", SevenToAShadow.NONE, -1);
    }

    private static void state() {
        t.sentence("promise 2");
        SevenToAShadow x = new SevenToAShadow();
        t.due("state(7)", x.state(7), 0);
        t.due("state(MIN)", x.state(MIN), 7);
        t.due("state(0)", x.state(0), MIN);
        x.state(-5);
        t.due("look(5)", x.look(5), -5);
    }

    private static void hour() {
        t.sentence("promise 3");
        SevenToAShadow x = new SevenToAShadow();
        int[] most = {7, 4, 9, 7, 10};
        for (int what = 0; what < 5; what++) {
            t.due("the most of " + what, x.hour(11, what, most[what]), true);
            t.due("it", x.look(10 + 55 + what), most[what]);
            t.due("one more", x.hour(11, what, most[what] + 1), false);
            t.due("below 0", x.hour(11, what, -1), false);
            t.due("it still", x.look(10 + 55 + what), most[what]);
            t.due("0", x.hour(11, what, 0), true);
            t.due("0 is", x.look(10 + 55 + what), 0);
        }
        t.due("hour -1", x.hour(-1, 0, 0), false);
        t.due("hour 12", x.hour(12, 0, 0), false);
        t.due("what -1", x.hour(0, -1, 0), false);
        t.due("what 5", x.hour(0, 5, 0), false);
        t.due("far off", x.hour(MAX, MIN, MAX), false);
        t.due("altitude", x.hour(3, 1, 0), true);
        t.due("HEAT stays as it was", x.look(10 + 15 + 2), 4);
    }

    private static void set() {
        t.sentence("promise 4");
        SevenToAShadow x = new SevenToAShadow();
        t.due("price 99", x.set(0, 99), true);
        t.due("rest 98", x.set(1, 98), true);
        t.due("price", x.look(6), 99);
        t.due("rest", x.look(7), 98);
        t.due("price 100", x.set(0, 100), false);
        t.due("rest 100", x.set(1, 100), false);
        t.due("price -1", x.set(0, -1), false);
        t.due("rest -1", x.set(1, -1), false);
        t.due("what 2", x.set(2, 1), false);
        t.due("what -1", x.set(-1, 1), false);
        t.due("price still", x.look(6), 99);
        t.due("rest still", x.look(7), 98);
        t.due("price 0", x.set(0, 0), true);
        t.due("price is 0", x.look(6), 0);
    }

    private static void pilgrim() {
        t.sentence("promise 5");
        SevenToAShadow x = new SevenToAShadow();
        int[][] cannotBe = {{-1, 0, 1, 0, 0}, {25, 0, 1, 0, 0}, {0, -1, 1, 0, 0}, {0, 10, 1, 0, 0}, {0, 0, 0, 0, 0},
            {0, 0, 4, 0, 0}, {0, 0, 1, -1, 0}, {0, 0, 1, 10, 0}, {0, 0, 1, 0, -1}, {0, 0, 1, 0, 10000},
            {MIN, MAX, MIN, MAX, MIN}};
        for (int[] c : cannotBe) {
            t.due("one who can't be", x.pilgrim(c[0], c[1], c[2], c[3], c[4]), -1);
        }
        t.due("nobody", x.look(2), 0);
        t.due("the first", x.pilgrim(24, 9, 3, 8, 9999), 0);
        t.due("on his place", x.pilgrim(24, 0, 1, 0, 0), -1);
        int[] row = {24, 9, 3, 8, 9999, 0, 0, 0, 0, 0};
        for (int what = 0; what < 10; what++) {
            t.due("of(0, " + what + ")", x.of(0, what), row[what]);
        }
        for (int p = 1; p < 10; p++) {
            t.due("the next", x.pilgrim(p, 0, 1, 0, 0), p);
        }
        t.due("the eleventh", x.pilgrim(20, 0, 1, 0, 0), -1);
        t.due("ten", x.look(2), 10);
    }

    private static void give() {
        t.sentence("promise 6");
        SevenToAShadow x = new SevenToAShadow();
        x.pilgrim(3, 0, 1, 0, 7);
        x.pilgrim(4, 0, 1, 0, 7);
        t.due("a free place", x.give(0, 0, 24), true);
        t.due("place", x.of(0, 0), 24);
        t.due("his own", x.give(0, 0, 24), true);
        t.due("another's", x.give(0, 0, 4), false);
        t.due("place 25", x.give(0, 0, 25), false);
        t.due("place -1", x.give(0, 0, -1), false);
        t.due("place still", x.of(0, 0), 24);
        for (int what = 1; what < 3; what++) {
            t.due("2", x.give(0, what, 2), false);
            t.due("-1", x.give(0, what, -1), false);
            t.due("not yet", x.of(0, 4 + what), 0);
            t.due("1", x.give(0, what, 1), true);
            t.due("has", x.of(0, 4 + what), 1);
            t.due("the other not", x.of(1, 4 + what), 0);
            t.due("0", x.give(0, what, 0), true);
            t.due("has not", x.of(0, 4 + what), 0);
        }
        t.due("water 10000", x.give(1, 3, 10000), false);
        t.due("water -1", x.give(1, 3, -1), false);
        t.due("water 9999", x.give(1, 3, 9999), true);
        t.due("water", x.of(1, 4), 9999);
        t.due("what 4", x.give(0, 4, 0), false);
        t.due("what -1", x.give(0, -1, 0), false);
        t.due("nobody 2", x.give(2, 0, 0), false);
        t.due("nobody -1", x.give(-1, 0, 0), false);
    }

    private static void quarrel() {
        t.sentence("promise 7");
        SevenToAShadow x = new SevenToAShadow();
        x.pilgrim(0, 0, 1, 0, 0);
        x.pilgrim(1, 0, 1, 0, 0);
        t.due("with himself", x.quarrel(1, 1, true), false);
        t.due("nobody", x.quarrel(0, 2, true), false);
        t.due("nobody", x.quarrel(2, 0, true), false);
        t.due("nobody", x.quarrel(-1, 0, true), false);
        t.due("nobody", x.quarrel(0, -1, false), false);
        t.due("two", x.quarrel(1, 0, true), true);
        x.hours(1);
        t.due("they fight", x.look(3), 1);
        t.due("two again", x.quarrel(0, 1, true), true);
        x.hours(1);
        t.due("they fight once an hour", x.look(3), 2);
        t.due("no more", x.quarrel(0, 1, false), true);
        t.due("no more, again", x.quarrel(0, 1, false), true);
        x.hours(1);
        t.due("peace", x.look(3), 2);
    }

    private static void tape() {
        t.sentence("promise 8");
        SevenToAShadow x = new SevenToAShadow();
        for (int i = 1; i <= 20; i++) {
            t.due("feed", x.feed(0, 0, 0, 0, 0), 20 * i);
        }
        t.due("more than 400", x.feed(0, 0, 0, 0, 0), -1);
        t.sentence("promise 9");
        t.due("end(401)", x.end(401), false);
        t.due("end(-1)", x.end(-1), false);
        t.due("end(400)", x.end(400), true);
        t.due("end(381)", x.end(381), true);
        t.due("end(382)", x.end(382), false);
        t.sentence("promise 8");
        t.due("401 would be", x.feed(0, 0, 0, 0, 0), -1);
        t.sentence("promise 9");
        t.due("end(380)", x.end(380), true);
        t.sentence("promise 8");
        t.due("400 are", x.feed(0, 0, 0, 0, 0), 400);
        t.sentence("promise 9");
        t.due("end(0)", x.end(0), true);
        t.due("end(0) of none", x.end(0), true);
        t.due("end(1) of none", x.end(1), false);
        t.sentence("promise 8");
        int stay = 's' << 24 | 't' << 16 | 'a' << 8 | 'y';
        int semicolons = ';' << 24 | ' ' << 16 | '\n' << 8 | ' ';
        t.due("the highest first", x.feed(stay, semicolons, stay, semicolons, semicolons), 20);
        x.end(17);
        t.due("two lines and a third that is none", x.text(), -1);
        t.due("its place", x.fault(1), 16);
        x.feed(stay, semicolons, stay, semicolons, semicolons);
        x.end(16);
        t.due("two lines", x.text(), 2);
        t.due("the TAPE is empty then", x.feed(0, 0, 0, 0, 0), 20);
    }

    private static void text() {
        t.sentence("promise 10");
        SevenToAShadow x = new SevenToAShadow();
        t.due("none", x.text(), 0);
        t.due("blanks", Checks.rules(x, " \n "), 0);
        t.due("without blanks", Checks.rules(x, "stay;seek when burn>3;buy;flee;"), 4);
        t.due("lines", x.look(8), 4);
        t.due("a fault", Checks.rules(x, "stay; seek"), -1);
        t.due("RULES as before", x.look(8), 4);
        t.due("the TAPE is empty after a FAULT", x.end(1), false);
        t.due("no blank after a keyword", Checks.rules(x, "stay when1=1or not2<3and(water>0);"), 1);
        t.due("sixteen", Checks.rules(x, "stay;".repeat(16)), 16);
        t.due("eight open", Checks.rules(x, "stay when ((not((not not(1=1)))));"), 1);
        t.due("they close", Checks.rules(x, "stay when ((not((not not(1=1))))) and ((((((((1=1)))))))) or not not not 1=1;"), 1);
        t.due("a not is closed with its C", Checks.rules(x, "stay when not 1=1 and not 1=1 and not 1=1 and not 1=1 and "
            + "not 1=1 and not 1=1 and not 1=1 and not 1=1 and not 1=1 and not 1=1;"), 1);
        t.due("the whole TAPE", Checks.rules(x, "stay when 1=1" + "+1".repeat(193) + ";"), 1);
        t.due("none again", x.text(), 0);
        t.due("RULES are empty", x.look(8), 0);
    }

    private static void faults() {
        t.sentence("promise 11");
        SevenToAShadow x = new SevenToAShadow();
        t.due("no text yet", x.fault(0), 0);
        t.due("no text yet", x.fault(1), -1);
        t.due("what 2", x.fault(2), -1);
        t.due("what -1", x.fault(-1), -1);
        Checks.rules(x, "stay");
        t.due("the end", x.fault(0), 1);
        t.due("its place", x.fault(1), 4);
        Checks.rules(x, "stay;");
        t.due("the latest has none", x.fault(0), 0);
        t.due("so no place", x.fault(1), -1);
        t.fault("stay ", 1, 5);
        t.fault(";", 1, 0);
        t.fault("Stay;", 1, 0);
        t.fault("stayX;", 1, 0);
        t.fault("stay2;", 1, 4);
        t.fault("stayz;", 1, 0);
        t.fault("stayA;", 1, 0);
        t.fault("stayZ;", 1, 0);
        t.fault("stay@;", 1, 4);
        t.fault("stay[;", 1, 4);
        t.fault("stay`;", 1, 4);
        t.fault("stay{;", 1, 4);
        t.fault("when 1=1;", 1, 0);
        t.fault("stay stay;", 1, 5);
        t.fault("stay when;", 1, 9);
        t.fault("stay when burn;", 1, 14);
        t.fault("stay when burn=;", 1, 15);
        t.fault("stay when burn=-1;", 1, 15);
        t.fault("stay when 1=1=1;", 1, 13);
        t.fault("stay when 1<2 and 1=2>3;", 1, 21);
        t.fault("stay when 1=1 and;", 1, 17);
        t.fault("stay when 1=1 not 1=1;", 1, 14);
        t.fault("stay when (1=1;", 1, 14);
        t.fault("stay when 1=1);", 1, 13);
        t.fault("stay when (1)=1;", 1, 12);
        t.fault("stay when (1+1=2) + 1 = 2;", 1, 18);
        t.fault("stay when 1 + (1) = 2;", 1, 14);
        t.fault("stay when 1*=2;", 1, 12);
        t.fault("stay when 4/burn=2;", 1, 12);
        t.fault("stay when 12345=1;", 1, 10);
        t.fault("stay when 1=1.;", 1, 13);
        t.fault("stay when\t1=1;", 1, 9);
        t.fault("stay" + (char) 0 + ";", 1, 4);
        t.fault("stay" + (char) 233 + ";", 1, 4);
        t.fault("stay when burn and;", 1, 15);
        t.fault("stay when 1/0=1;", 2, 12);
        t.fault("stay when 1/ 0000=1;", 2, 13);
        t.fault("stay when 1/00000=1;", 1, 12);
        t.fault("stay when 1*3/2/0=1 and;", 2, 16);
        t.fault("stay when and 1/0=1;", 1, 10);
        t.fault("stay;".repeat(16) + "\nstay;", 3, 81);
        t.fault("stay;".repeat(16) + "not;", 1, 80);
        t.fault("stay;".repeat(16) + "buy when 1/0=1;", 3, 80);
        t.fault("stay when (((((((((1=1)))))))));", 3, 18);
        t.fault("stay when (not(not(not(not(not 1=1))));", 3, 26);
        t.fault("stay when not not not not not not not not (1=1);", 3, 42);
        t.fault("stay when (1=1) and ((((((((( 1=1;", 3, 28);
        t.fault("stay when ((((((((1=1)))))))))", 1, 29);
    }

    /** What a B is worth is seen by whether its PILGRIM flees. */
    private static void so(String b, boolean want) {
        SevenToAShadow x = new SevenToAShadow();
        x.pilgrim(24, 0, 1, 0, 0);
        x.pilgrim(7, 6, 2, 8, 33);
        x.pilgrim(2, 0, 1, 0, 0);
        x.quarrel(0, 1, true);
        x.quarrel(1, 2, true);
        x.hour(0, 1, 4);
        x.hour(0, 2, 3);
        x.hours(1);
        x.hour(1, 1, 4);
        x.hour(1, 2, 9);
        t.due("the line of " + b, Checks.rules(x, "flee when pilgrim = 1 and (" + b + ");"), 1);
        x.hours(1);
        t.due(b, x.of(1, 0) != 7, want);
    }

    private static void reckoning() {
        t.sentence("promise 12");
        so("burn = 24", true);
        so("heat = 9", true);
        so("shaded = 0", true);
        so("water = 33", true);
        so("tall = 6", true);
        so("skin = 8", true);
        so("hour = 1", true);
        so("place = 7", true);
        so("bears = 0", true);
        so("pilgrim = 1", true);
        so("1 < 1", false);
        so("1 > 1", false);
        so("1 < 2", true);
        so("2 > 1", true);
        so("2 < 1", false);
        so("1 > 2", false);
        so("1 = 2", false);
        so("7 - 2 - 3 = 2", true);
        so("7 - 2 * 3 = 1", true);
        so("2 + 3 * 4 = 14", true);
        so("7 / 2 * 2 = 6", true);
        so("2 * 7 / 2 = 7", true);
        so("7 / 2 / 2 = 1", true);
        so("0 - 7 / 2 = 0 - 3", true);
        so("skin - 15 - 0 = 0 - 7", true);
        so("9999 * 9999 * 9999 > 0", 9999 * 9999 * 9999 > 0);
        so("9999 * 9999 * 9999 / 7 + 9999 * 9999 * 9999 < 0", 9999 * 9999 * 9999 / 7 + 9999 * 9999 * 9999 < 0);
        so("1=1 or 1=1 and 1=2", true);
        so("(1=1 or 1=1) and 1=2", false);
        so("1=2 and 1=1 or 1=1", true);
        so("not 1=1 or 1=1", true);
        so("not (1=1 or 1=1)", false);
        so("not 1=2 and 1=2", false);
        so("not not 1=1", true);
        so("not not not 1=1", false);
        so("1=2 or 1=2 or 1=1", true);
        so("1=1 and 1=1 and 1=2", false);
    }

    private static void hours() {
        t.sentence("promise 12");
        SevenToAShadow x = new SevenToAShadow();
        x.pilgrim(0, 0, 1, 3, 0);
        x.pilgrim(24, 0, 1, 2, 0);
        t.due("hours(0)", x.hours(0), -1);
        t.due("hours(-1)", x.hours(-1), -1);
        t.due("hours(13)", x.hours(13), -1);
        t.due("hours(MAX)", x.hours(MAX), -1);
        t.due("hours(MIN)", x.hours(MIN), -1);
        t.due("NOW", x.look(1), 0);
        t.due("two hours", x.hours(2), 15);
        t.due("burn of 0", x.of(0, 7), 9);
        t.due("burn of 1", x.of(1, 7), 6);
        t.due("too many", x.hours(11), -1);
        t.due("nothing is done", x.look(1), 2);
        t.due("the others", x.hours(10), 5 * 37);
        t.due("NOW", x.look(1), 12);
        t.due("none left", x.hours(1), -1);
        SevenToAShadow first = new SevenToAShadow();
        first.pilgrim(12, 0, 1, 1, 0);
        first.pilgrim(13, 0, 1, 1, 0);
        first.quarrel(0, 1, true);
        Checks.rules(first, "stay when pilgrim = 0; flee;");
        first.hours(1);
        t.due("the first line that is so", first.of(0, 0), 12);
        t.due("else the second", first.of(1, 0), 9);
    }

    private static void clouds() {
        t.sentence("promise 12");
        SevenToAShadow x = new SevenToAShadow();
        x.pilgrim(0, 0, 1, 1, 0);
        x.hour(0, 4, 10);
        t.due("clouds of ten", x.hours(1), 0);
        t.due("one draw", x.look(5), 1013904223);
        t.due("nothing in the book", x.look(4), 0);
        t.due("the HEAT that was told stays", x.look(12), 1);
        x.hours(1);
        t.due("no draw without clouds", x.look(5), 1013904223);
        SevenToAShadow y = new SevenToAShadow();
        y.pilgrim(0, 0, 1, 1, 0);
        int s = 77;
        y.state(s);
        int burnt = 0;
        for (int h = 0; h < 12; h++) {
            y.hour(h, 4, 5);
            s = 1664525 * s + 1013904223;
            burnt += (s >>> 8) % 10 < 5 ? 0 : y.look(12 + 5 * h);
        }
        t.due("by draws", y.hours(12), burnt);
        t.due("STATE", y.look(5), s);
        SevenToAShadow z = new SevenToAShadow();
        z.pilgrim(0, 0, 1, 1, 0);
        z.pilgrim(1, 0, 1, 1, 0);
        z.quarrel(0, 1, true);
        z.hour(0, 4, 10);
        Checks.rules(z, "flee when heat = 0;");
        z.hours(1);
        t.due("heat is 0 under clouds", z.of(0, 0), 10);
    }

    private static void seek() {
        t.sentence("promise 12");
        SevenToAShadow x = new SevenToAShadow();
        x.pilgrim(12, 0, 1, 1, 0);
        x.pilgrim(14, 0, 1, 1, 0);
        x.give(0, 1, 1);
        Checks.rules(x, "seek;");
        t.due("the shaded one goes and nobody burns", x.hours(1), 0);
        t.due("the nearest free one, far 3", x.of(1, 0), 11);
        t.due("the bearer stays", x.of(0, 0), 12);
        SevenToAShadow y = new SevenToAShadow();
        y.pilgrim(12, 9, 1, 1, 0);
        Checks.rules(y, "seek;");
        y.hours(1);
        t.due("his own shade is none to go to", y.of(0, 0), 12);
        SevenToAShadow z = new SevenToAShadow();
        z.pilgrim(6, 9, 3, 1, 0);
        z.pilgrim(18, 9, 3, 1, 0);
        z.pilgrim(16, 0, 1, 1, 0);
        z.give(2, 2, 1);
        Checks.rules(z, "seek;");
        z.hours(1);
        t.due("of several as near the least", z.of(0, 0), 12);
        t.due("as all stand then: 0 stands at 12, so 6, 11, 16 are shaded", z.of(1, 0), 6);
        t.due("who has a HAT stays", z.of(2, 0), 16);
    }

    private static void flee() {
        t.sentence("promise 12");
        SevenToAShadow x = new SevenToAShadow();
        x.pilgrim(12, 0, 1, 0, 0);
        x.pilgrim(18, 0, 1, 0, 0);
        x.pilgrim(1, 0, 1, 0, 0);
        x.quarrel(0, 1, true);
        Checks.rules(x, "flee when pilgrim = 0;");
        x.hours(1);
        t.due("far 1: the nearest that is far 2", x.of(0, 0), 6);
        x.hours(1);
        t.due("far 2: he stays", x.of(0, 0), 6);
        x.give(0, 0, 12);
        x.quarrel(0, 2, true);
        x.hours(1);
        t.due("away from all with whom he quarrels", x.of(0, 0), 8);
        SevenToAShadow y = new SevenToAShadow();
        int[] places = {12, 6, 8, 16, 18};
        for (int place : places) {
            y.pilgrim(place, 0, 1, 0, 0);
        }
        for (int q = 1; q < 5; q++) {
            y.quarrel(0, q, true);
        }
        Checks.rules(y, "flee when pilgrim = 0;");
        y.hours(1);
        t.due("no such place: he stays", y.of(0, 0), 12);
        t.due("and fights", y.look(3), 4);
        SevenToAShadow z = new SevenToAShadow();
        z.pilgrim(12, 0, 1, 0, 0);
        z.pilgrim(23, 0, 1, 0, 0);
        z.pilgrim(6, 0, 1, 0, 0);
        z.quarrel(0, 2, true);
        z.quarrel(1, 2, true);
        Checks.rules(z, "flee when pilgrim = 2;");
        z.hours(1);
        t.due("the one who is told last is no less a foe for it", z.of(2, 0), 0);
    }

    private static void buy() {
        t.sentence("promise 12");
        SevenToAShadow x = new SevenToAShadow();
        x.pilgrim(24, 0, 1, 2, 12);
        x.pilgrim(11, 0, 1, 1, 0);
        x.pilgrim(10, 0, 1, 1, 9999);
        x.pilgrim(12, 0, 1, 1, 0);
        x.give(3, 1, 1);
        Checks.rules(x, "buy when pilgrim = 0;");
        x.hours(1);
        t.due("no burn less than his: he stays", x.of(0, 0), 24);
        x.hours(1);
        t.due("of several the least number", x.of(0, 0), 11);
        t.due("they change places", x.of(1, 0), 24);
        t.due("he pays", x.of(0, 4), 7);
        t.due("the other has it", x.of(1, 4), 5);
        t.due("bought", x.of(0, 9), 1);
        t.due("sold", x.of(1, 8), 1);
        t.due("not sold", x.of(0, 8), 0);
        t.due("not bought", x.of(1, 9), 0);
        x.hour(2, 0, 2);
        x.hours(1);
        t.due("shaded: he buys nothing", x.of(0, 9), 1);
        x.give(0, 0, 0);
        x.give(1, 0, 11);
        x.hour(3, 0, 2);
        x.hour(3, 1, 2);
        x.hours(1);
        t.due("from him with the least burn", x.of(0, 0), 10);
        t.due("WATER may go above what can be told", x.of(2, 4), 10004);
        t.due("what is left", x.of(0, 4), 2);
        x.give(0, 0, 4);
        x.give(2, 0, 10);
        x.hour(4, 0, 2);
        x.hour(4, 1, 2);
        x.hours(1);
        t.due("who has not PRICE stays", x.of(0, 0), 4);
        x.set(0, 2);
        x.give(1, 2, 1);
        x.give(2, 2, 1);
        x.hour(5, 0, 2);
        x.hour(5, 1, 2);
        x.hours(1);
        t.due("nobody sells who has a HAT or a PARASOL", x.of(0, 0), 4);
        x.give(2, 2, 0);
        x.hour(6, 0, 2);
        x.hour(6, 1, 2);
        x.hours(1);
        t.due("just PRICE is enough", x.of(0, 0), 10);
        t.due("no water left", x.of(0, 4), 0);
    }

    private static void fights() {
        t.sentence("promise 12");
        SevenToAShadow x = new SevenToAShadow();
        x.pilgrim(0, 0, 1, 0, 0);
        x.pilgrim(6, 0, 1, 0, 0);
        x.pilgrim(8, 0, 1, 0, 0);
        x.pilgrim(12, 0, 1, 0, 0);
        x.quarrel(0, 1, true);
        x.quarrel(1, 2, true);
        x.quarrel(2, 3, true);
        x.hours(3);
        t.due("two pairs that are far 1, three hours", x.look(3), 6);
    }

    private static void evening() {
        t.sentence("promise 13");
        SevenToAShadow x = new SevenToAShadow();
        x.pilgrim(0, 0, 1, 1, 0);
        x.pilgrim(9, 0, 1, 2, 0);
        x.set(1, 60);
        t.due("NOW 0", x.evening(), -1);
        x.hours(11);
        t.due("NOW 11", x.evening(), -1);
        t.due("nothing is done", x.of(1, 7), 78);
        x.hours(1);
        t.due("DAY 1", x.evening(), 1);
        t.due("DAY", x.look(0), 1);
        t.due("NOW", x.look(1), 0);
        t.due("0 at least", x.of(0, 7), 0);
        t.due("less by REST", x.of(1, 7), 20);
    }

    private static void of() {
        t.sentence("promise 14");
        SevenToAShadow x = new SevenToAShadow();
        x.pilgrim(12, 0, 1, 1, 0);
        x.pilgrim(11, 0, 1, 1, 0);
        x.pilgrim(24, 0, 1, 1, 0);
        x.give(0, 1, 1);
        x.give(2, 2, 1);
        t.due("by his own PARASOL", x.of(0, 10), 1);
        t.due("by another's", x.of(1, 10), 1);
        t.due("by a HAT", x.of(2, 10), 1);
        x.hours(4);
        t.due("the sun is overhead", x.of(1, 10), 0);
        t.due("his own PARASOL still", x.of(0, 10), 1);
        x.hours(8);
        t.due("0 at 12", x.of(0, 10), 0);
        t.due("0 at 12 with a HAT", x.of(2, 10), 0);
        t.due("what 11", x.of(0, 11), -1);
        t.due("what -1", x.of(0, -1), -1);
        t.due("what MIN", x.of(0, MIN), -1);
        t.due("nobody", x.of(3, 0), -1);
        t.due("nobody", x.of(-1, 10), -1);
    }

    private static void shade() {
        t.sentence("promise 15");
        SevenToAShadow x = new SevenToAShadow();
        t.due("place -1", x.shade(-1, 0), -1);
        t.due("place 25", x.shade(25, 0), -1);
        t.due("hour -1", x.shade(0, -1), -1);
        t.due("hour 12", x.shade(0, 12), -1);
        int[][] rays = {{7, 2}, {8, 4}, {13, 14}, {18, 24}, {17, 22}, {16, 20}, {11, 10}, {6, 0}};
        for (int sun = 0; sun < 8; sun++) {
            SevenToAShadow y = new SevenToAShadow();
            y.pilgrim(12, 0, 3, 0, 0);
            y.give(0, 1, 1);
            y.hour(0, 0, sun);
            for (int road = 0; road < 8; road++) {
                y.hour(0, 3, road);
                int[] ray = rays[(sun + 4 - road + 8) % 8];
                t.due("sun " + sun + ", road " + road, Checks.shadeIn(y, 0), Checks.places(12, ray[0], ray[1]));
            }
        }
        x.pilgrim(14, 0, 3, 0, 0);
        x.give(0, 1, 1);
        int[][] byAltitude = {{14, 13, 12, 11, 10}, {14, 13, 12, 11}, {14, 13, 12}, {14, 13}, {14}};
        for (int altitude = 0; altitude < 5; altitude++) {
            x.hour(0, 1, altitude);
            t.due("altitude " + altitude, Checks.shadeIn(x, 0), Checks.places(byAltitude[altitude]));
        }
        bodies();
    }

    private static int bodyShade(int place, int tall, int girth, int altitude, int sun) {
        SevenToAShadow x = new SevenToAShadow();
        x.pilgrim(place, tall, girth, 0, 0);
        x.hour(0, 0, sun);
        x.hour(0, 1, altitude);
        return Checks.shadeIn(x, 0);
    }

    private static void bodies() {
        t.due("not tall", bodyShade(12, 4, 3, 0, 2), 0);
        t.due("tall", bodyShade(12, 5, 1, 0, 2), Checks.places(11));
        t.due("tall, altitude 2", bodyShade(12, 9, 1, 2, 2), Checks.places(11));
        t.due("tall, altitude 3", bodyShade(12, 9, 1, 3, 2), 0);
        t.due("fat", bodyShade(12, 5, 2, 2, 2), Checks.places(11, 6, 16));
        t.due("fat, altitude 3", bodyShade(12, 5, 2, 3, 2), 0);
        t.due("fattest, altitude 3", bodyShade(12, 5, 3, 3, 2), Checks.places(11, 6, 16));
        t.due("fattest, altitude 4", bodyShade(12, 5, 3, 4, 2), 0);
        t.due("askew", bodyShade(12, 5, 2, 0, 5), Checks.places(8, 2, 14));
        t.due("at the edge there is none behind", bodyShade(10, 5, 3, 0, 2), 0);
        t.due("no places beside one that is not there", bodyShade(14, 5, 3, 0, 5), 0);
        t.due("in the corner some are missing", bodyShade(1, 5, 3, 0, 2), Checks.places(0, 5));
        t.due("askew at the edge", bodyShade(8, 5, 3, 0, 5), Checks.places(4));
    }

    private static void book() {
        t.sentence("promise 16");
        SevenToAShadow x = new SevenToAShadow();
        x.pilgrim(0, 0, 1, 0, 0);
        x.pilgrim(1, 0, 1, 3, 0);
        x.pilgrim(2, 0, 1, 2, 0);
        x.hours(12);
        x.evening();
        x.hours(2);
        int[][] lines = {{1, 0, 0, 3}, {2, 0, 0, 2}, {1, 0, 1, 6}};
        for (int i = 0; i < 3; i++) {
            for (int what = 0; what < 4; what++) {
                t.due("line " + i, x.book(i, what), lines[i][what]);
            }
        }
        t.due("lines", x.look(4), 28);
        t.due("the last: who", x.book(27, 0), 2);
        t.due("the last: day", x.book(27, 1), 1);
        t.due("the last: hour", x.book(27, 2), 1);
        t.due("the last: how much", x.book(27, 3), 4);
        t.due("none such", x.book(28, 0), -1);
        t.due("none such", x.book(-1, 0), -1);
        t.due("what 4", x.book(0, 4), -1);
        t.due("what -1", x.book(0, -1), -1);
        x.hours(10);
        for (int day = 0; day < 9; day++) {
            x.evening();
            x.hours(12);
        }
        t.due("200 at most", x.look(4), 200);
        t.due("line 199", x.book(199, 1), 8);
        t.due("no line 200", x.book(200, 0), -1);
        t.due("burns go on", x.of(1, 7), 11 * 120);
    }

    private static void walk() {
        t.sentence("promise 17");
        SevenToAShadow x = new SevenToAShadow();
        t.due("from 1 to 0", x.walk(1, 0, 0), -1);
        t.due("from -1", x.walk(-1, 0, 0), -1);
        t.due("to 12", x.walk(0, 12, 0), -1);
        t.due("nobody: 0", x.walk(0, 11, 0), 0);
        x.pilgrim(0, 9, 3, 2, 0);
        x.pilgrim(24, 0, 1, 5, 0);
        x.pilgrim(13, 0, 1, 1, 0);
        x.pilgrim(3, 0, 1, 5, 0);
        x.give(2, 1, 1);
        x.give(0, 2, 1);
        t.due("what 2", x.walk(0, 0, 2), -1);
        t.due("what 9", x.walk(0, 0, 9), -1);
        t.due("what 14: nobody", x.walk(0, 0, 14), -1);
        t.due("what -1", x.walk(0, 0, -1), -1);
        t.due("what MIN", x.walk(0, 0, MIN), -1);
        t.due("the most skin, the least number, first", x.walk(0, 1, 11), 10);
        t.due("then 3", x.walk(0, 1, 13), 11);
        t.due("then 0, who has a HAT", x.walk(0, 1, 10), 12);
        t.due("the bearer stays", x.walk(0, 1, 12), 13);
        t.due("no suns in the shade", x.walk(0, 1, 1), 0);
        t.due("hour 4: the greatest", x.walk(4, 4, 0), 25);
        t.due("hour 4: the sum", x.walk(4, 4, 1), 60);
        t.due("hour 4: by number", x.walk(4, 4, 11), 0);
        t.due("hour 4: by number", x.walk(4, 4, 13), 1);
        t.due("hour 4: by number", x.walk(4, 4, 10), 2);
        t.due("0 .. 2: suns of 3 at 1, 7, 10, 11, 12", x.walk(0, 2, 11), 1);
        t.due("0 .. 2: the next", x.walk(0, 2, 13), 7);
        t.due("0 .. 2: the third", x.walk(0, 2, 10), 10);
        t.due("0 .. 2: the greatest", x.walk(0, 2, 0), 15);
        x.hour(0, 4, 10);
        t.due("HEAT as told, whatever the CLOUDS", x.walk(0, 0, 10 + 1), 10);
        t.due("nobody went", x.of(0, 0), 0);
        x.give(3, 1, 1);
        x.give(0, 1, 1);
        t.due("with three bearers: 0's own", x.walk(4, 4, 10), 0);
        t.due("3's own", x.walk(4, 4, 13), 3);
        t.due("the first free of bearers", x.walk(4, 4, 11), 1);
        t.due("3's shade comes to place 0, but a bearer is there; 1 and 2 have it", x.walk(0, 0, 11), 1);
        t.due("no suns there", x.walk(0, 0, 0), 0);
        x.give(3, 0, 1);
        t.due("0, 1 and 13 are bearers' places", x.walk(4, 4, 11), 2);
        t.due("10 is in the shade of 13", x.walk(0, 0, 11), 10);
    }

    private static void fewest() {
        t.sentence("promise 18");
        SevenToAShadow x = new SevenToAShadow();
        t.due("nobody", x.fewest(0, 0), 0);
        t.due("from 1 to 0", x.fewest(1, 0), -1);
        t.due("from -1", x.fewest(-1, 0), -1);
        t.due("to 12", x.fewest(11, 12), -1);
        x.pilgrim(12, 0, 1, 0, 0);
        x.pilgrim(13, 0, 1, 0, 0);
        x.pilgrim(14, 0, 1, 0, 0);
        t.due("one for all three", x.fewest(0, 0), 4);
        t.due("in the evening another", x.fewest(11, 11), 1);
        t.due("both", x.fewest(0, 11), 7);
        x.give(0, 1, 1);
        t.due("who bears one now is not asked", x.fewest(0, 0), 4);
        t.due("and stays a bearer", x.of(0, 5), 1);
        x.give(2, 2, 1);
        t.due("who has a HAT needs none", x.fewest(0, 0), 2);
        SevenToAShadow y = new SevenToAShadow();
        y.pilgrim(12, 9, 1, 0, 0);
        y.pilgrim(11, 0, 1, 0, 0);
        y.pilgrim(13, 0, 1, 0, 0);
        t.due("by a tall one, too, of several the least number", y.fewest(0, 0), 4);
        y.give(2, 0, 24);
        t.due("12 shades 11, 24 and 12 bear", y.fewest(0, 0), 5);
        SevenToAShadow z = new SevenToAShadow();
        z.pilgrim(10, 0, 1, 0, 0);
        z.pilgrim(14, 0, 1, 0, 0);
        z.hour(0, 1, 4);
        t.due("all, if nothing else goes", z.fewest(0, 0), 3);
        t.due("all but not in the morning", z.fewest(1, 1), 3);
        z.hour(0, 1, 0);
        t.due("the farther one", z.fewest(0, 0), 2);
    }

    private static void turn() {
        t.sentence("promise 19");
        SevenToAShadow x = new SevenToAShadow();
        t.due("hour 12", x.turn(12, 0, 0), -100000);
        t.due("hour -1", x.turn(-1, 0, 0), -100000);
        t.due("road 8", x.turn(0, 8, 0), -100000);
        t.due("road -1", x.turn(0, -1, 0), -100000);
        t.due("what 2", x.turn(0, 0, 2), -100000);
        t.due("what -1", x.turn(0, 0, -1), -100000);
        x.pilgrim(12, 0, 1, 1, 0);
        x.pilgrim(11, 0, 1, 3, 0);
        x.pilgrim(7, 0, 1, 7, 0);
        x.pilgrim(2, 0, 1, 1, 0);
        x.give(0, 1, 1);
        x.hour(0, 2, 2);
        t.due("to the road where 2 and 3 are shaded, not 1", x.turn(0, 6, 0), 10);
        t.due("who gains", x.turn(0, 6, 1), 12);
        t.due("the same road", x.turn(0, 0, 0), 0);
        t.due("to none", x.turn(0, 4, 0), -6);
        t.due("nobody gains", x.turn(0, 4, 1), 0);
        x.give(2, 2, 1);
        t.due("who has a HAT gains nothing", x.turn(0, 6, 0), -4);
        t.due("but 3 does", x.turn(0, 6, 1), 8);
        x.hour(0, 4, 10);
        t.due("CLOUDS are not asked", x.turn(0, 6, 0), -4);
        t.due("the ROAD stays", x.look(13), 0);
        x.hour(0, 3, 6);
        t.due("and back", x.turn(0, 0, 0), 4);
    }

    private static void halts() {
        t.sentence("promise 20");
        SevenToAShadow x = new SevenToAShadow();
        t.due("n -1", x.halts(-1, 1, 0), -1);
        t.due("n 13", x.halts(13, 12, 0), -1);
        t.due("m 0", x.halts(1, 0, 0), -1);
        t.due("m 13", x.halts(1, 13, 0), -1);
        t.due("what 2", x.halts(1, 1, 2), -1);
        t.due("what -1", x.halts(1, 1, -1), -1);
        t.due("none to walk", x.halts(0, 12, 1), 0);
        t.due("no heat", x.halts(0, 12, 0), 0);
        t.due("the first of the two coolest", x.halts(1, 1, 1), 1);
        t.due("both", x.halts(2, 1, 1), 2049);
        t.due("three", x.halts(3, 2, 1), 2051);
        t.due("its heat", x.halts(3, 2, 0), 4);
        t.due("seven, one in a row", x.halts(7, 1, 1), -1);
        t.due("seven, two in a row: halts at 2, 9 and three of the hottest", x.halts(7, 2, 0), 40 - 3 - 3 - 15);
        t.due("all", x.halts(12, 12, 1), 4095);
        t.due("all, eleven in a row", x.halts(12, 11, 1), -1);
        for (int h = 0; h < 12; h++) {
            x.hour(h, 2, 0);
        }
        t.due("all alike: the first", x.halts(3, 12, 1), 7);
        t.due("all alike, two in a row", x.halts(5, 2, 1), 1 + 2 + 8 + 16 + 64);
        t.due("all alike, one in a row", x.halts(6, 1, 1), 1365);
        x.hour(2, 2, 9);
        x.hour(2, 4, 10);
        t.due("HEAT as told", x.halts(3, 12, 1), 11);
    }

    private static void toldAndThief() {
        t.sentence("promise 21");
        SevenToAShadow x = new SevenToAShadow();
        t.due("nobody", x.told(0, 5), false);
        x.pilgrim(12, 0, 1, 1, 0);
        x.pilgrim(11, 0, 1, 2, 0);
        x.give(0, 1, 1);
        t.due("none at first", x.look(80), -1);
        t.due("-2", x.told(0, -2), false);
        t.due("10000", x.told(0, 10000), false);
        t.due("nobody", x.told(-1, 0), false);
        t.due("nobody", x.told(2, 0), false);
        t.due("9999", x.told(0, 9999), true);
        t.due("told", x.look(80), 9999);
        t.due("none", x.told(0, -1), true);
        t.due("none is told", x.look(80), -1);
        t.due("0", x.told(1, 0), true);
        t.due("0 is told", x.look(81), 0);
        t.sentence("promise 22");
        x.told(1, -1);
        t.due("none told: all turnings", x.thief(0), 84);
        t.due("the first", x.thief(1), 0);
        t.due("the first", x.thief(2), 1);
        t.due("so without one", x.thief(3), 1);
        // The PARASOL's shade falls on 11 in HOURS 0 and 1 alone: 2 * (40 - 1 - 2).
        x.told(1, 74);
        t.due("so as it is", x.thief(3), 1);
        t.due("turnings that change nothing", x.thief(0), 84 - 2 * 7 - 6);
        x.told(1, 76);
        t.due("not so", x.thief(3), 0);
        t.due("HOUR 0 turned away", x.thief(0), 7);
        t.due("HOUR", x.thief(1), 0);
        t.due("ROAD", x.thief(2), 1);
        x.told(1, 68);
        t.due("HOUR 2 or HOUR 9 turned to 11", x.thief(0), 2);
        t.due("HOUR", x.thief(1), 2);
        t.due("ROAD: 3 + 4 - 1 is 6", x.thief(2), 1);
        x.told(0, 1);
        t.due("a bearer never burns", x.thief(0), 0);
        t.due("no HOUR", x.thief(1), -1);
        t.due("no ROAD", x.thief(2), -1);
        t.due("not so", x.thief(3), 0);
        t.due("what 4", x.thief(4), -1);
        t.due("what -1", x.thief(-1), -1);
        x.told(0, 0);
        x.told(1, 0);
        x.give(1, 2, 1);
        t.due("with a HAT as well", x.thief(0), 84);
        t.due("ROADS are as told", x.look(13), 0);
    }

    private static void undo() {
        t.sentence("promise 23");
        SevenToAShadow x = new SevenToAShadow();
        t.due("nothing", x.undo(), false);
        x.pilgrim(12, 0, 1, 2, 10);
        x.pilgrim(11, 0, 1, 1, 0);
        x.pilgrim(13, 0, 1, 0, 0);
        x.give(2, 1, 1);
        x.quarrel(0, 1, true);
        x.hour(1, 4, 5);
        x.give(0, 0, 0);
        x.hours(1);
        Checks.rules(x, "buy;");
        x.told(0, 3);
        x.state(99);
        t.due("RULES, TOLD, STATE forget nothing", x.look(9), 1);
        x.hours(11);
        t.due("twelve", x.look(9), 12);
        for (int n = 11; n >= 1; n--) {
            t.due("undo", x.undo(), true);
            t.due("left", x.look(9), n);
            t.due("NOW", x.look(1), n);
        }
        t.due("STATE", x.look(5), 99);
        t.due("place", x.of(0, 0), 0);
        t.due("place", x.of(1, 0), 11);
        t.due("water", x.of(0, 4), 10);
        t.due("water", x.of(1, 4), 0);
        t.due("burn", x.of(0, 7), 2);
        t.due("sold", x.of(1, 8), 0);
        t.due("bought", x.of(0, 9), 0);
        t.due("the book", x.look(4), 1);
        t.due("fights", x.look(3), 0);
        x.state(5);
        Checks.rules(x, "stay;stay;");
        x.told(1, 7);
        t.due("the first", x.undo(), true);
        t.due("STATE goes back, too", x.look(5), 0);
        t.due("RULES don't", x.look(8), 2);
        t.due("TOLD doesn't", x.look(81), 7);
        t.due("burn", x.of(0, 7), 0);
        t.due("nothing more", x.undo(), false);
        t.due("and NOW is 0", x.look(1), 0);
        forgets();
    }

    private static void forgets() {
        for (int kind = 0; kind < 14; kind++) {
            SevenToAShadow x = new SevenToAShadow();
            x.pilgrim(0, 0, 1, 0, 0);
            x.pilgrim(1, 0, 1, 0, 0);
            x.hours(3);
            boolean forgotten = kind < 6;
            switch (kind) {
                case 0: x.hour(0, 0, 2); break;
                case 1: x.set(0, 5); break;
                case 2: x.pilgrim(2, 0, 1, 0, 0); break;
                case 3: x.give(0, 0, 0); break;
                case 4: x.quarrel(0, 1, false); break;
                case 5: x.image(true); x.image(false); break;
                case 6: x.hour(0, 0, 8); break;
                case 7: x.set(2, 5); break;
                case 8: x.pilgrim(0, 0, 1, 0, 0); break;
                case 9: x.give(0, 0, 1); break;
                case 10: x.quarrel(0, 0, true); break;
                case 11: x.image(false); break;
                case 12: x.evening(); break;
                default: x.hours(10); x.walk(0, 1, 0); x.fewest(0, 11); x.turn(0, 1, 0); x.halts(3, 1, 1); x.thief(0);
            }
            t.due("kind " + kind + " forgets", x.look(9), forgotten ? 0 : 3);
            t.due("kind " + kind + ": undo", x.undo(), !forgotten);
        }
        SevenToAShadow x = new SevenToAShadow();
        x.hours(12);
        x.evening();
        t.due("an evening forgets", x.look(9), 0);
        t.due("an evening: undo", x.undo(), false);
    }

    private static void image() {
        t.sentence("promise 24");
        SevenToAShadow x = new SevenToAShadow();
        t.due("none yet", x.image(false), false);
        x.pilgrim(0, 0, 1, 3, 20);
        x.pilgrim(1, 0, 1, 2, 0);
        x.quarrel(0, 1, true);
        x.hour(3, 3, 5);
        x.set(0, 7);
        x.set(1, 8);
        x.told(0, 44);
        x.state(1234);
        Checks.rules(x, "stay; stay;");
        x.hours(12);
        x.evening();
        x.hours(2);
        int[] before = everything(x);
        t.due("taken", x.image(true), true);
        t.due("taking it forgets nothing", x.look(9), 2);
        for (int time = 0; time < 2; time++) {
            x.hours(10);
            x.evening();
            x.hours(1);
            x.pilgrim(2, 0, 1, 9, 0);
            x.quarrel(0, 1, false);
            x.hour(3, 3, 1);
            x.set(0, 1);
            x.set(1, 1);
            x.told(0, 1);
            x.told(2, 2);
            x.state(1);
            x.give(0, 1, 1);
            x.give(0, 2, 1);
            Checks.rules(x, "flee;");
            Checks.rules(x, "flee; 1");
            x.feed(0, 0, 0, 0, 0);
            t.due("gone back", x.image(false), true);
            int[] after = everything(x);
            for (int i = 0; i < before.length; i++) {
                t.due("number " + i + " of what is", after[i], before[i]);
            }
            t.due("nothing can be undone", x.undo(), false);
            t.due("the TAPE stays", x.end(20), true);
            t.due("fault() stays", x.fault(0), 1);
            t.due("its place stays", x.fault(1), 6);
            int fights = x.look(3);
            x.hours(1);
            t.due("they QUARREL as they did", x.look(3), fights + 1);
            t.due("one can be undone", x.undo(), true);
            t.due("a new pilgrim is the third again", x.pilgrim(5, 0, 1, 1, 0), 2);
            t.due("without PARASOL", x.of(2, 5), 0);
            t.due("nothing told of him", x.look(82), -1);
            x.image(false);
        }
    }

    private static int[] everything(SevenToAShadow x) {
        int[] all = new int[9 + 60 + 4 + 33 + 20];
        int n = 0;
        for (int what = 0; what < 9; what++) {
            all[n++] = x.look(what);
        }
        for (int what = 10; what < 70; what++) {
            all[n++] = x.look(what);
        }
        for (int what = 80; what < 84; what++) {
            all[n++] = x.look(what);
        }
        for (int p = 0; p < 3; p++) {
            for (int what = 0; what < 11; what++) {
                all[n++] = x.of(p, what);
            }
        }
        for (int i = 0; i < 5; i++) {
            for (int what = 0; what < 4; what++) {
                all[n++] = x.book(6 * i, what);
            }
        }
        return all;
    }

    private static void look() {
        t.sentence("promise 25");
        SevenToAShadow x = new SevenToAShadow();
        int[] others = {-1, MIN, MAX, 70, 79, 80, 89, 90};
        for (int what : others) {
            t.due("look(" + what + ")", x.look(what), -2);
        }
        x.pilgrim(0, 0, 1, 1, 0);
        t.due("told of 0", x.look(80), -1);
        t.due("told of nobody", x.look(81), -2);
        for (int p = 1; p < 10; p++) {
            x.pilgrim(p, 0, 1, 1, 0);
        }
        x.told(9, 17);
        x.quarrel(3, 4, true);
        t.due("told of 9", x.look(89), 17);
        t.due("look(90)", x.look(90), -2);
        x.state(-3);
        x.set(0, 11);
        x.set(1, 12);
        Checks.rules(x, "stay;stay;stay;");
        x.hours(12);
        x.evening();
        x.hours(1);
        int[] row = {1, 1, 10, 13, 130, -3, 11, 12, 3, 1};
        for (int what = 0; what < 10; what++) {
            t.due("look(" + what + ")", x.look(what), row[what]);
        }
    }
}
