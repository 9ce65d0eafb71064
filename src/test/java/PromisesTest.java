/** Each promise of the document by hand: ordinary calls, the edges it names, wrong ones. */
public final class PromisesTest {
    private static final int MIN = Integer.MIN_VALUE;
    private static final int MAX = Integer.MAX_VALUE;
    private static int wrong;
    private static int promise;

    private static void due(String what, int got, int want) {
        if (got != want) {
            wrong++;
            System.out.println("promise " + promise + ": " + what + " answered " + got + ", due is " + want);
        }
    }

    private static void due(String what, boolean got, boolean want) {
        due(what, got ? 1 : 0, want ? 1 : 0);
    }

    public static void main(String[] args) {
        newObject();
        state();
        hour();
        set();
        pilgrim();
        give();
        quarrel();
        tape();
        text();
        faults();
        reckoning();
        hours();
        clouds();
        seek();
        flee();
        buy();
        fights();
        evening();
        of();
        shade();
        book();
        walk();
        fewest();
        turn();
        halts();
        toldAndThief();
        undo();
        image();
        look();
        System.out.println(wrong == 0 ? "PromisesTest: all as due" : "PromisesTest: " + wrong + " wrong");
        System.exit(wrong == 0 ? 0 : 1);
    }

    /** The text comes on the TAPE, the last bytes that make twenty are cut off again. */
    private static void feedText(SevenToAShadow x, String text) {
        x.end(0);
        for (int i = 0; i < text.length(); i += 20) {
            int[] five = new int[5];
            for (int k = 0; k < 20; k++) {
                five[k / 4] = five[k / 4] << 8 | (i + k < text.length() ? text.charAt(i + k) : 0);
            }
            x.feed(five[0], five[1], five[2], five[3], five[4]);
        }
        x.end(text.length());
    }

    private static int rules(SevenToAShadow x, String text) {
        feedText(x, text);
        return x.text();
    }

    private static void fault(String text, int number, int place) {
        SevenToAShadow x = new SevenToAShadow();
        due("text() of " + text, rules(x, text), -1);
        due("fault(0) of " + text, x.fault(0), number);
        due("fault(1) of " + text, x.fault(1), place);
    }

    private static void newObject() {
        promise = 1;
        SevenToAShadow x = new SevenToAShadow();
        int[] suns = {2, 2, 3, 3, 4, 4, 4, 4, 5, 5, 6, 6};
        int[] altitudes = {0, 1, 2, 3, 4, 4, 4, 4, 3, 2, 1, 0};
        for (int h = 0; h < 12; h++) {
            int[] row = {suns[h], altitudes[h], altitudes[h] + 1, 0, 0};
            for (int k = 0; k < 5; k++) {
                due("look at hour " + h + " column " + k, x.look(10 + 5 * h + k), row[k]);
            }
        }
        due("pilgrims", x.look(2), 0);
        due("of(0, 0)", x.of(0, 0), -1);
        due("price", x.look(6), 5);
        due("NONE", SevenToAShadow.NONE, -1);
    }

    private static void state() {
        promise = 2;
        SevenToAShadow x = new SevenToAShadow();
        due("state(7)", x.state(7), 0);
        due("state(MIN)", x.state(MIN), 7);
        due("state(0)", x.state(0), MIN);
        x.state(-5);
        due("look(5)", x.look(5), -5);
    }

    private static void hour() {
        promise = 3;
        SevenToAShadow x = new SevenToAShadow();
        int[] most = {7, 4, 9, 7, 10};
        for (int what = 0; what < 5; what++) {
            due("the most of " + what, x.hour(11, what, most[what]), true);
            due("it", x.look(10 + 55 + what), most[what]);
            due("one more", x.hour(11, what, most[what] + 1), false);
            due("below 0", x.hour(11, what, -1), false);
            due("it still", x.look(10 + 55 + what), most[what]);
            due("0", x.hour(11, what, 0), true);
            due("0 is", x.look(10 + 55 + what), 0);
        }
        due("hour -1", x.hour(-1, 0, 0), false);
        due("hour 12", x.hour(12, 0, 0), false);
        due("what -1", x.hour(0, -1, 0), false);
        due("what 5", x.hour(0, 5, 0), false);
        due("far off", x.hour(MAX, MIN, MAX), false);
        due("altitude", x.hour(3, 1, 0), true);
        due("HEAT stays as it was", x.look(10 + 15 + 2), 4);
    }

    private static void set() {
        promise = 4;
        SevenToAShadow x = new SevenToAShadow();
        due("price 99", x.set(0, 99), true);
        due("rest 98", x.set(1, 98), true);
        due("price", x.look(6), 99);
        due("rest", x.look(7), 98);
        due("price 100", x.set(0, 100), false);
        due("rest 100", x.set(1, 100), false);
        due("price -1", x.set(0, -1), false);
        due("rest -1", x.set(1, -1), false);
        due("what 2", x.set(2, 1), false);
        due("what -1", x.set(-1, 1), false);
        due("price still", x.look(6), 99);
        due("rest still", x.look(7), 98);
        due("price 0", x.set(0, 0), true);
        due("price is 0", x.look(6), 0);
    }

    private static void pilgrim() {
        promise = 5;
        SevenToAShadow x = new SevenToAShadow();
        int[][] cannotBe = {{-1, 0, 1, 0, 0}, {25, 0, 1, 0, 0}, {0, -1, 1, 0, 0}, {0, 10, 1, 0, 0}, {0, 0, 0, 0, 0},
            {0, 0, 4, 0, 0}, {0, 0, 1, -1, 0}, {0, 0, 1, 10, 0}, {0, 0, 1, 0, -1}, {0, 0, 1, 0, 10000},
            {MIN, MAX, MIN, MAX, MIN}};
        for (int[] c : cannotBe) {
            due("one who can't be", x.pilgrim(c[0], c[1], c[2], c[3], c[4]), -1);
        }
        due("nobody", x.look(2), 0);
        due("the first", x.pilgrim(24, 9, 3, 8, 9999), 0);
        due("on his place", x.pilgrim(24, 0, 1, 0, 0), -1);
        int[] row = {24, 9, 3, 8, 9999, 0, 0, 0, 0, 0};
        for (int what = 0; what < 10; what++) {
            due("of(0, " + what + ")", x.of(0, what), row[what]);
        }
        for (int p = 1; p < 10; p++) {
            due("the next", x.pilgrim(p, 0, 1, 0, 0), p);
        }
        due("the eleventh", x.pilgrim(20, 0, 1, 0, 0), -1);
        due("ten", x.look(2), 10);
    }

    private static void give() {
        promise = 6;
        SevenToAShadow x = new SevenToAShadow();
        x.pilgrim(3, 0, 1, 0, 7);
        x.pilgrim(4, 0, 1, 0, 7);
        due("a free place", x.give(0, 0, 24), true);
        due("place", x.of(0, 0), 24);
        due("his own", x.give(0, 0, 24), true);
        due("another's", x.give(0, 0, 4), false);
        due("place 25", x.give(0, 0, 25), false);
        due("place -1", x.give(0, 0, -1), false);
        due("place still", x.of(0, 0), 24);
        for (int what = 1; what < 3; what++) {
            due("2", x.give(0, what, 2), false);
            due("-1", x.give(0, what, -1), false);
            due("not yet", x.of(0, 4 + what), 0);
            due("1", x.give(0, what, 1), true);
            due("has", x.of(0, 4 + what), 1);
            due("the other not", x.of(1, 4 + what), 0);
            due("0", x.give(0, what, 0), true);
            due("has not", x.of(0, 4 + what), 0);
        }
        due("water 10000", x.give(1, 3, 10000), false);
        due("water -1", x.give(1, 3, -1), false);
        due("water 9999", x.give(1, 3, 9999), true);
        due("water", x.of(1, 4), 9999);
        due("what 4", x.give(0, 4, 0), false);
        due("what -1", x.give(0, -1, 0), false);
        due("nobody 2", x.give(2, 0, 0), false);
        due("nobody -1", x.give(-1, 0, 0), false);
    }

    private static void quarrel() {
        promise = 7;
        SevenToAShadow x = new SevenToAShadow();
        x.pilgrim(0, 0, 1, 0, 0);
        x.pilgrim(1, 0, 1, 0, 0);
        due("with himself", x.quarrel(1, 1, true), false);
        due("nobody", x.quarrel(0, 2, true), false);
        due("nobody", x.quarrel(2, 0, true), false);
        due("nobody", x.quarrel(-1, 0, true), false);
        due("nobody", x.quarrel(0, -1, false), false);
        due("two", x.quarrel(1, 0, true), true);
        x.hours(1);
        due("they fight", x.look(3), 1);
        due("two again", x.quarrel(0, 1, true), true);
        x.hours(1);
        due("they fight once an hour", x.look(3), 2);
        due("no more", x.quarrel(0, 1, false), true);
        due("no more, again", x.quarrel(0, 1, false), true);
        x.hours(1);
        due("peace", x.look(3), 2);
    }

    private static void tape() {
        promise = 8;
        SevenToAShadow x = new SevenToAShadow();
        for (int i = 1; i <= 20; i++) {
            due("feed", x.feed(0, 0, 0, 0, 0), 20 * i);
        }
        due("more than 400", x.feed(0, 0, 0, 0, 0), -1);
        promise = 9;
        due("end(401)", x.end(401), false);
        due("end(-1)", x.end(-1), false);
        due("end(400)", x.end(400), true);
        due("end(381)", x.end(381), true);
        due("end(382)", x.end(382), false);
        promise = 8;
        due("401 would be", x.feed(0, 0, 0, 0, 0), -1);
        promise = 9;
        due("end(380)", x.end(380), true);
        promise = 8;
        due("400 are", x.feed(0, 0, 0, 0, 0), 400);
        promise = 9;
        due("end(0)", x.end(0), true);
        due("end(0) of none", x.end(0), true);
        due("end(1) of none", x.end(1), false);
        promise = 8;
        int stay = 's' << 24 | 't' << 16 | 'a' << 8 | 'y';
        int semicolons = ';' << 24 | ' ' << 16 | '\n' << 8 | ' ';
        due("the highest first", x.feed(stay, semicolons, stay, semicolons, semicolons), 20);
        x.end(17);
        due("two lines and a third that is none", x.text(), -1);
        due("its place", x.fault(1), 16);
        x.feed(stay, semicolons, stay, semicolons, semicolons);
        x.end(16);
        due("two lines", x.text(), 2);
        due("the TAPE is empty then", x.feed(0, 0, 0, 0, 0), 20);
    }

    private static void text() {
        promise = 10;
        SevenToAShadow x = new SevenToAShadow();
        due("none", x.text(), 0);
        due("blanks", rules(x, " \n "), 0);
        due("without blanks", rules(x, "stay;seek when burn>3;buy;flee;"), 4);
        due("lines", x.look(8), 4);
        due("a fault", rules(x, "stay; seek"), -1);
        due("RULES as before", x.look(8), 4);
        due("the TAPE is empty after a FAULT", x.end(1), false);
        due("no blank after a keyword", rules(x, "stay when1=1or not2<3and(water>0);"), 1);
        due("sixteen", rules(x, "stay;".repeat(16)), 16);
        due("eight open", rules(x, "stay when ((not((not not(1=1)))));"), 1);
        due("they close", rules(x, "stay when ((not((not not(1=1))))) and ((((((((1=1)))))))) or not not not 1=1;"), 1);
        due("a not is closed with its C", rules(x, "stay when not 1=1 and not 1=1 and not 1=1 and not 1=1 and "
            + "not 1=1 and not 1=1 and not 1=1 and not 1=1 and not 1=1 and not 1=1;"), 1);
        due("the whole TAPE", rules(x, "stay when 1=1" + "+1".repeat(193) + ";"), 1);
        due("none again", x.text(), 0);
        due("RULES are empty", x.look(8), 0);
    }

    private static void faults() {
        promise = 11;
        SevenToAShadow x = new SevenToAShadow();
        due("no text yet", x.fault(0), 0);
        due("no text yet", x.fault(1), -1);
        due("what 2", x.fault(2), -1);
        due("what -1", x.fault(-1), -1);
        rules(x, "stay");
        due("the end", x.fault(0), 1);
        due("its place", x.fault(1), 4);
        rules(x, "stay;");
        due("the latest has none", x.fault(0), 0);
        due("so no place", x.fault(1), -1);
        fault("stay ", 1, 5);
        fault(";", 1, 0);
        fault("Stay;", 1, 0);
        fault("stayX;", 1, 0);
        fault("stay2;", 1, 4);
        fault("stayz;", 1, 0);
        fault("stayA;", 1, 0);
        fault("stayZ;", 1, 0);
        fault("stay@;", 1, 4);
        fault("stay[;", 1, 4);
        fault("stay`;", 1, 4);
        fault("stay{;", 1, 4);
        fault("when 1=1;", 1, 0);
        fault("stay stay;", 1, 5);
        fault("stay when;", 1, 9);
        fault("stay when burn;", 1, 14);
        fault("stay when burn=;", 1, 15);
        fault("stay when burn=-1;", 1, 15);
        fault("stay when 1=1=1;", 1, 13);
        fault("stay when 1<2 and 1=2>3;", 1, 21);
        fault("stay when 1=1 and;", 1, 17);
        fault("stay when 1=1 not 1=1;", 1, 14);
        fault("stay when (1=1;", 1, 14);
        fault("stay when 1=1);", 1, 13);
        fault("stay when (1)=1;", 1, 12);
        fault("stay when (1+1=2) + 1 = 2;", 1, 18);
        fault("stay when 1 + (1) = 2;", 1, 14);
        fault("stay when 1*=2;", 1, 12);
        fault("stay when 4/burn=2;", 1, 12);
        fault("stay when 12345=1;", 1, 10);
        fault("stay when 1=1.;", 1, 13);
        fault("stay when\t1=1;", 1, 9);
        fault("stay" + (char) 0 + ";", 1, 4);
        fault("stay" + (char) 233 + ";", 1, 4);
        fault("stay when burn and;", 1, 15);
        fault("stay when 1/0=1;", 2, 12);
        fault("stay when 1/ 0000=1;", 2, 13);
        fault("stay when 1/00000=1;", 1, 12);
        fault("stay when 1*3/2/0=1 and;", 2, 16);
        fault("stay when and 1/0=1;", 1, 10);
        fault("stay;".repeat(16) + "\nstay;", 3, 81);
        fault("stay;".repeat(16) + "not;", 1, 80);
        fault("stay;".repeat(16) + "buy when 1/0=1;", 3, 80);
        fault("stay when (((((((((1=1)))))))));", 3, 18);
        fault("stay when (not(not(not(not(not 1=1))));", 3, 26);
        fault("stay when not not not not not not not not (1=1);", 3, 42);
        fault("stay when (1=1) and ((((((((( 1=1;", 3, 28);
        fault("stay when ((((((((1=1)))))))))", 1, 29);
    }

    /** What a B is worth is seen by whether its PILGRIM flees. */
    private static void so(String b, boolean want) {
        SevenToAShadow x = new SevenToAShadow();
        x.pilgrim(24, 0, 1, 0, 0);
        x.pilgrim(7, 6, 2, 8, 33);
        x.pilgrim(2, 0, 1, 0, 0);
        x.quarrel(0, 1, true);
        x.quarrel(1, 2, true);
        x.hour(0, 1, 4);
        x.hour(0, 2, 3);
        x.hours(1);
        x.hour(1, 1, 4);
        x.hour(1, 2, 9);
        due("the line of " + b, rules(x, "flee when pilgrim = 1 and (" + b + ");"), 1);
        x.hours(1);
        due(b, x.of(1, 0) != 7, want);
    }

    private static void reckoning() {
        promise = 12;
        so("burn = 24", true);
        so("heat = 9", true);
        so("shaded = 0", true);
        so("water = 33", true);
        so("tall = 6", true);
        so("skin = 8", true);
        so("hour = 1", true);
        so("place = 7", true);
        so("bears = 0", true);
        so("pilgrim = 1", true);
        so("1 < 1", false);
        so("1 > 1", false);
        so("1 < 2", true);
        so("2 > 1", true);
        so("2 < 1", false);
        so("1 > 2", false);
        so("1 = 2", false);
        so("7 - 2 - 3 = 2", true);
        so("7 - 2 * 3 = 1", true);
        so("2 + 3 * 4 = 14", true);
        so("7 / 2 * 2 = 6", true);
        so("2 * 7 / 2 = 7", true);
        so("7 / 2 / 2 = 1", true);
        so("0 - 7 / 2 = 0 - 3", true);
        so("skin - 15 - 0 = 0 - 7", true);
        so("9999 * 9999 * 9999 > 0", 9999 * 9999 * 9999 > 0);
        so("9999 * 9999 * 9999 / 7 + 9999 * 9999 * 9999 < 0", 9999 * 9999 * 9999 / 7 + 9999 * 9999 * 9999 < 0);
        so("1=1 or 1=1 and 1=2", true);
        so("(1=1 or 1=1) and 1=2", false);
        so("1=2 and 1=1 or 1=1", true);
        so("not 1=1 or 1=1", true);
        so("not (1=1 or 1=1)", false);
        so("not 1=2 and 1=2", false);
        so("not not 1=1", true);
        so("not not not 1=1", false);
        so("1=2 or 1=2 or 1=1", true);
        so("1=1 and 1=1 and 1=2", false);
    }

    private static void hours() {
        promise = 12;
        SevenToAShadow x = new SevenToAShadow();
        x.pilgrim(0, 0, 1, 3, 0);
        x.pilgrim(24, 0, 1, 2, 0);
        due("hours(0)", x.hours(0), -1);
        due("hours(-1)", x.hours(-1), -1);
        due("hours(13)", x.hours(13), -1);
        due("hours(MAX)", x.hours(MAX), -1);
        due("hours(MIN)", x.hours(MIN), -1);
        due("NOW", x.look(1), 0);
        due("two hours", x.hours(2), 15);
        due("burn of 0", x.of(0, 7), 9);
        due("burn of 1", x.of(1, 7), 6);
        due("too many", x.hours(11), -1);
        due("nothing is done", x.look(1), 2);
        due("the others", x.hours(10), 5 * 37);
        due("NOW", x.look(1), 12);
        due("none left", x.hours(1), -1);
        SevenToAShadow first = new SevenToAShadow();
        first.pilgrim(12, 0, 1, 1, 0);
        first.pilgrim(13, 0, 1, 1, 0);
        first.quarrel(0, 1, true);
        rules(first, "stay when pilgrim = 0; flee;");
        first.hours(1);
        due("the first line that is so", first.of(0, 0), 12);
        due("else the second", first.of(1, 0), 9);
    }

    private static void clouds() {
        promise = 12;
        SevenToAShadow x = new SevenToAShadow();
        x.pilgrim(0, 0, 1, 1, 0);
        x.hour(0, 4, 10);
        due("clouds of ten", x.hours(1), 0);
        due("one draw", x.look(5), 1013904223);
        due("nothing in the book", x.look(4), 0);
        due("the HEAT that was told stays", x.look(12), 1);
        x.hours(1);
        due("no draw without clouds", x.look(5), 1013904223);
        SevenToAShadow y = new SevenToAShadow();
        y.pilgrim(0, 0, 1, 1, 0);
        int s = 77;
        y.state(s);
        int burnt = 0;
        for (int h = 0; h < 12; h++) {
            y.hour(h, 4, 5);
            s = 1664525 * s + 1013904223;
            burnt += (s >>> 8) % 10 < 5 ? 0 : y.look(12 + 5 * h);
        }
        due("by draws", y.hours(12), burnt);
        due("STATE", y.look(5), s);
        SevenToAShadow z = new SevenToAShadow();
        z.pilgrim(0, 0, 1, 1, 0);
        z.pilgrim(1, 0, 1, 1, 0);
        z.quarrel(0, 1, true);
        z.hour(0, 4, 10);
        rules(z, "flee when heat = 0;");
        z.hours(1);
        due("heat is 0 under clouds", z.of(0, 0), 10);
    }

    private static void seek() {
        promise = 12;
        SevenToAShadow x = new SevenToAShadow();
        x.pilgrim(12, 0, 1, 1, 0);
        x.pilgrim(14, 0, 1, 1, 0);
        x.give(0, 1, 1);
        rules(x, "seek;");
        due("the shaded one goes and nobody burns", x.hours(1), 0);
        due("the nearest free one, far 3", x.of(1, 0), 11);
        due("the bearer stays", x.of(0, 0), 12);
        SevenToAShadow y = new SevenToAShadow();
        y.pilgrim(12, 9, 1, 1, 0);
        rules(y, "seek;");
        y.hours(1);
        due("his own shade is none to go to", y.of(0, 0), 12);
        SevenToAShadow z = new SevenToAShadow();
        z.pilgrim(6, 9, 3, 1, 0);
        z.pilgrim(18, 9, 3, 1, 0);
        z.pilgrim(16, 0, 1, 1, 0);
        z.give(2, 2, 1);
        rules(z, "seek;");
        z.hours(1);
        due("of several as near the least", z.of(0, 0), 12);
        due("as all stand then: 0 stands at 12, so 6, 11, 16 are shaded", z.of(1, 0), 6);
        due("who has a HAT stays", z.of(2, 0), 16);
    }

    private static void flee() {
        promise = 12;
        SevenToAShadow x = new SevenToAShadow();
        x.pilgrim(12, 0, 1, 0, 0);
        x.pilgrim(18, 0, 1, 0, 0);
        x.pilgrim(1, 0, 1, 0, 0);
        x.quarrel(0, 1, true);
        rules(x, "flee when pilgrim = 0;");
        x.hours(1);
        due("far 1: the nearest that is far 2", x.of(0, 0), 6);
        x.hours(1);
        due("far 2: he stays", x.of(0, 0), 6);
        x.give(0, 0, 12);
        x.quarrel(0, 2, true);
        x.hours(1);
        due("away from all with whom he quarrels", x.of(0, 0), 8);
        SevenToAShadow y = new SevenToAShadow();
        int[] places = {12, 6, 8, 16, 18};
        for (int place : places) {
            y.pilgrim(place, 0, 1, 0, 0);
        }
        for (int q = 1; q < 5; q++) {
            y.quarrel(0, q, true);
        }
        rules(y, "flee when pilgrim = 0;");
        y.hours(1);
        due("no such place: he stays", y.of(0, 0), 12);
        due("and fights", y.look(3), 4);
        SevenToAShadow z = new SevenToAShadow();
        z.pilgrim(12, 0, 1, 0, 0);
        z.pilgrim(23, 0, 1, 0, 0);
        z.pilgrim(6, 0, 1, 0, 0);
        z.quarrel(0, 2, true);
        z.quarrel(1, 2, true);
        rules(z, "flee when pilgrim = 2;");
        z.hours(1);
        due("the one who is told last is no less a foe for it", z.of(2, 0), 0);
    }

    private static void buy() {
        promise = 12;
        SevenToAShadow x = new SevenToAShadow();
        x.pilgrim(24, 0, 1, 2, 12);
        x.pilgrim(11, 0, 1, 1, 0);
        x.pilgrim(10, 0, 1, 1, 9999);
        x.pilgrim(12, 0, 1, 1, 0);
        x.give(3, 1, 1);
        rules(x, "buy when pilgrim = 0;");
        x.hours(1);
        due("no burn less than his: he stays", x.of(0, 0), 24);
        x.hours(1);
        due("of several the least number", x.of(0, 0), 11);
        due("they change places", x.of(1, 0), 24);
        due("he pays", x.of(0, 4), 7);
        due("the other has it", x.of(1, 4), 5);
        due("bought", x.of(0, 9), 1);
        due("sold", x.of(1, 8), 1);
        due("not sold", x.of(0, 8), 0);
        due("not bought", x.of(1, 9), 0);
        x.hour(2, 0, 2);
        x.hours(1);
        due("shaded: he buys nothing", x.of(0, 9), 1);
        x.give(0, 0, 0);
        x.give(1, 0, 11);
        x.hour(3, 0, 2);
        x.hour(3, 1, 2);
        x.hours(1);
        due("from him with the least burn", x.of(0, 0), 10);
        due("WATER may go above what can be told", x.of(2, 4), 10004);
        due("what is left", x.of(0, 4), 2);
        x.give(0, 0, 4);
        x.give(2, 0, 10);
        x.hour(4, 0, 2);
        x.hour(4, 1, 2);
        x.hours(1);
        due("who has not PRICE stays", x.of(0, 0), 4);
        x.set(0, 2);
        x.give(1, 2, 1);
        x.give(2, 2, 1);
        x.hour(5, 0, 2);
        x.hour(5, 1, 2);
        x.hours(1);
        due("nobody sells who has a HAT or a PARASOL", x.of(0, 0), 4);
        x.give(2, 2, 0);
        x.hour(6, 0, 2);
        x.hour(6, 1, 2);
        x.hours(1);
        due("just PRICE is enough", x.of(0, 0), 10);
        due("no water left", x.of(0, 4), 0);
    }

    private static void fights() {
        promise = 12;
        SevenToAShadow x = new SevenToAShadow();
        x.pilgrim(0, 0, 1, 0, 0);
        x.pilgrim(6, 0, 1, 0, 0);
        x.pilgrim(8, 0, 1, 0, 0);
        x.pilgrim(12, 0, 1, 0, 0);
        x.quarrel(0, 1, true);
        x.quarrel(1, 2, true);
        x.quarrel(2, 3, true);
        x.hours(3);
        due("two pairs that are far 1, three hours", x.look(3), 6);
    }

    private static void evening() {
        promise = 13;
        SevenToAShadow x = new SevenToAShadow();
        x.pilgrim(0, 0, 1, 1, 0);
        x.pilgrim(9, 0, 1, 2, 0);
        x.set(1, 60);
        due("NOW 0", x.evening(), -1);
        x.hours(11);
        due("NOW 11", x.evening(), -1);
        due("nothing is done", x.of(1, 7), 78);
        x.hours(1);
        due("DAY 1", x.evening(), 1);
        due("DAY", x.look(0), 1);
        due("NOW", x.look(1), 0);
        due("0 at least", x.of(0, 7), 0);
        due("less by REST", x.of(1, 7), 20);
        SevenToAShadow y = new SevenToAShadow();
        y.image(true);
        for (int day = 1; day <= 999; day++) {
            y.hours(12);
            due("DAY " + day, y.evening(), day);
        }
        y.hours(12);
        due("DAY 999", y.evening(), -1);
        due("nothing is done", y.look(1), 12);
    }

    private static void of() {
        promise = 14;
        SevenToAShadow x = new SevenToAShadow();
        x.pilgrim(12, 0, 1, 1, 0);
        x.pilgrim(11, 0, 1, 1, 0);
        x.pilgrim(24, 0, 1, 1, 0);
        x.give(0, 1, 1);
        x.give(2, 2, 1);
        due("by his own PARASOL", x.of(0, 10), 1);
        due("by another's", x.of(1, 10), 1);
        due("by a HAT", x.of(2, 10), 1);
        x.hours(4);
        due("the sun is overhead", x.of(1, 10), 0);
        due("his own PARASOL still", x.of(0, 10), 1);
        x.hours(8);
        due("0 at 12", x.of(0, 10), 0);
        due("0 at 12 with a HAT", x.of(2, 10), 0);
        due("what 11", x.of(0, 11), -1);
        due("what -1", x.of(0, -1), -1);
        due("what MIN", x.of(0, MIN), -1);
        due("nobody", x.of(3, 0), -1);
        due("nobody", x.of(-1, 10), -1);
    }

    /** The set of shaded PLACES in HOUR 0. */
    private static int shadeOf(SevenToAShadow x) {
        int set = 0;
        for (int place = 0; place < 25; place++) {
            set |= x.shade(place, 0) << place;
        }
        return set;
    }

    private static int places(int... all) {
        int set = 0;
        for (int place : all) {
            set |= 1 << place;
        }
        return set;
    }

    private static void shade() {
        promise = 15;
        SevenToAShadow x = new SevenToAShadow();
        due("place -1", x.shade(-1, 0), -1);
        due("place 25", x.shade(25, 0), -1);
        due("hour -1", x.shade(0, -1), -1);
        due("hour 12", x.shade(0, 12), -1);
        x.pilgrim(12, 0, 3, 0, 0);
        x.give(0, 1, 1);
        int[][] rays = {{7, 2}, {8, 4}, {13, 14}, {18, 24}, {17, 22}, {16, 20}, {11, 10}, {6, 0}};
        for (int sun = 0; sun < 8; sun++) {
            for (int road = 0; road < 8; road++) {
                x.hour(0, 0, sun);
                x.hour(0, 3, road);
                int[] ray = rays[(sun + 4 - road + 8) % 8];
                due("sun " + sun + ", road " + road, shadeOf(x), places(12, ray[0], ray[1]));
            }
        }
        x.hour(0, 0, 2);
        x.hour(0, 3, 0);
        x.give(0, 0, 14);
        int[][] byAltitude = {{14, 13, 12, 11, 10}, {14, 13, 12, 11}, {14, 13, 12}, {14, 13}, {14}};
        for (int altitude = 0; altitude < 5; altitude++) {
            x.hour(0, 1, altitude);
            due("altitude " + altitude, shadeOf(x), places(byAltitude[altitude]));
        }
        bodies();
    }

    private static int bodyShade(int place, int tall, int girth, int altitude, int sun) {
        SevenToAShadow x = new SevenToAShadow();
        x.pilgrim(place, tall, girth, 0, 0);
        x.hour(0, 0, sun);
        x.hour(0, 1, altitude);
        return shadeOf(x);
    }

    private static void bodies() {
        due("not tall", bodyShade(12, 4, 3, 0, 2), 0);
        due("tall", bodyShade(12, 5, 1, 0, 2), places(11));
        due("tall, altitude 2", bodyShade(12, 9, 1, 2, 2), places(11));
        due("tall, altitude 3", bodyShade(12, 9, 1, 3, 2), 0);
        due("fat", bodyShade(12, 5, 2, 2, 2), places(11, 6, 16));
        due("fat, altitude 3", bodyShade(12, 5, 2, 3, 2), 0);
        due("fattest, altitude 3", bodyShade(12, 5, 3, 3, 2), places(11, 6, 16));
        due("fattest, altitude 4", bodyShade(12, 5, 3, 4, 2), 0);
        due("askew", bodyShade(12, 5, 2, 0, 5), places(8, 2, 14));
        due("at the edge there is none behind", bodyShade(10, 5, 3, 0, 2), 0);
        due("no places beside one that is not there", bodyShade(14, 5, 3, 0, 5), 0);
        due("in the corner some are missing", bodyShade(1, 5, 3, 0, 2), places(0, 5));
        due("askew at the edge", bodyShade(8, 5, 3, 0, 5), places(4));
    }

    private static void book() {
        promise = 16;
        SevenToAShadow x = new SevenToAShadow();
        x.pilgrim(0, 0, 1, 0, 0);
        x.pilgrim(1, 0, 1, 3, 0);
        x.pilgrim(2, 0, 1, 2, 0);
        x.hours(12);
        x.evening();
        x.hours(2);
        int[][] lines = {{1, 0, 0, 3}, {2, 0, 0, 2}, {1, 0, 1, 6}};
        for (int i = 0; i < 3; i++) {
            for (int what = 0; what < 4; what++) {
                due("line " + i, x.book(i, what), lines[i][what]);
            }
        }
        due("lines", x.look(4), 28);
        due("the last: who", x.book(27, 0), 2);
        due("the last: day", x.book(27, 1), 1);
        due("the last: hour", x.book(27, 2), 1);
        due("the last: how much", x.book(27, 3), 4);
        due("none such", x.book(28, 0), -1);
        due("none such", x.book(-1, 0), -1);
        due("what 4", x.book(0, 4), -1);
        due("what -1", x.book(0, -1), -1);
        x.hours(10);
        for (int day = 0; day < 9; day++) {
            x.evening();
            x.hours(12);
        }
        due("200 at most", x.look(4), 200);
        due("line 199", x.book(199, 1), 8);
        due("no line 200", x.book(200, 0), -1);
        due("burns go on", x.of(1, 7), 11 * 120);
    }

    private static void walk() {
        promise = 17;
        SevenToAShadow x = new SevenToAShadow();
        due("from 1 to 0", x.walk(1, 0, 0), -1);
        due("from -1", x.walk(-1, 0, 0), -1);
        due("to 12", x.walk(0, 12, 0), -1);
        due("nobody: 0", x.walk(0, 11, 0), 0);
        x.pilgrim(0, 9, 3, 2, 0);
        x.pilgrim(24, 0, 1, 5, 0);
        x.pilgrim(13, 0, 1, 1, 0);
        x.pilgrim(3, 0, 1, 5, 0);
        x.give(2, 1, 1);
        x.give(0, 2, 1);
        due("what 2", x.walk(0, 0, 2), -1);
        due("what 9", x.walk(0, 0, 9), -1);
        due("what 14: nobody", x.walk(0, 0, 14), -1);
        due("what -1", x.walk(0, 0, -1), -1);
        due("what MIN", x.walk(0, 0, MIN), -1);
        due("the most skin, the least number, first", x.walk(0, 1, 11), 10);
        due("then 3", x.walk(0, 1, 13), 11);
        due("then 0, who has a HAT", x.walk(0, 1, 10), 12);
        due("the bearer stays", x.walk(0, 1, 12), 13);
        due("no suns in the shade", x.walk(0, 1, 1), 0);
        due("hour 4: the greatest", x.walk(4, 4, 0), 25);
        due("hour 4: the sum", x.walk(4, 4, 1), 60);
        due("hour 4: by number", x.walk(4, 4, 11), 0);
        due("hour 4: by number", x.walk(4, 4, 13), 1);
        due("hour 4: by number", x.walk(4, 4, 10), 2);
        due("0 .. 2: suns of 3 at 1, 7, 10, 11, 12", x.walk(0, 2, 11), 1);
        due("0 .. 2: the next", x.walk(0, 2, 13), 7);
        due("0 .. 2: the third", x.walk(0, 2, 10), 10);
        due("0 .. 2: the greatest", x.walk(0, 2, 0), 15);
        x.hour(0, 4, 10);
        due("HEAT as told, whatever the CLOUDS", x.walk(0, 0, 10 + 1), 10);
        due("nobody went", x.of(0, 0), 0);
        x.give(3, 1, 1);
        x.give(0, 1, 1);
        due("with three bearers: 0's own", x.walk(4, 4, 10), 0);
        due("3's own", x.walk(4, 4, 13), 3);
        due("the first free of bearers", x.walk(4, 4, 11), 1);
        due("3's shade comes to place 0, but a bearer is there; 1 and 2 have it", x.walk(0, 0, 11), 1);
        due("no suns there", x.walk(0, 0, 0), 0);
        x.give(3, 0, 1);
        due("0, 1 and 13 are bearers' places", x.walk(4, 4, 11), 2);
        due("10 is in the shade of 13", x.walk(0, 0, 11), 10);
    }

    private static void fewest() {
        promise = 18;
        SevenToAShadow x = new SevenToAShadow();
        due("nobody", x.fewest(0, 0), 0);
        due("from 1 to 0", x.fewest(1, 0), -1);
        due("from -1", x.fewest(-1, 0), -1);
        due("to 12", x.fewest(11, 12), -1);
        x.pilgrim(12, 0, 1, 0, 0);
        x.pilgrim(13, 0, 1, 0, 0);
        x.pilgrim(14, 0, 1, 0, 0);
        due("one for all three", x.fewest(0, 0), 4);
        due("in the evening another", x.fewest(11, 11), 1);
        due("both", x.fewest(0, 11), 7);
        x.give(0, 1, 1);
        due("who bears one now is not asked", x.fewest(0, 0), 4);
        due("and stays a bearer", x.of(0, 5), 1);
        x.give(2, 2, 1);
        due("who has a HAT needs none", x.fewest(0, 0), 2);
        SevenToAShadow y = new SevenToAShadow();
        y.pilgrim(12, 9, 1, 0, 0);
        y.pilgrim(11, 0, 1, 0, 0);
        y.pilgrim(13, 0, 1, 0, 0);
        due("by a tall one, too, of several the least number", y.fewest(0, 0), 4);
        y.give(2, 0, 24);
        due("12 shades 11, 24 and 12 bear", y.fewest(0, 0), 5);
        SevenToAShadow z = new SevenToAShadow();
        z.pilgrim(10, 0, 1, 0, 0);
        z.pilgrim(14, 0, 1, 0, 0);
        z.hour(0, 1, 4);
        due("all, if nothing else goes", z.fewest(0, 0), 3);
        due("all but not in the morning", z.fewest(1, 1), 3);
        z.hour(0, 1, 0);
        due("the farther one", z.fewest(0, 0), 2);
    }

    private static void turn() {
        promise = 19;
        SevenToAShadow x = new SevenToAShadow();
        due("hour 12", x.turn(12, 0, 0), -100000);
        due("hour -1", x.turn(-1, 0, 0), -100000);
        due("road 8", x.turn(0, 8, 0), -100000);
        due("road -1", x.turn(0, -1, 0), -100000);
        due("what 2", x.turn(0, 0, 2), -100000);
        due("what -1", x.turn(0, 0, -1), -100000);
        x.pilgrim(12, 0, 1, 1, 0);
        x.pilgrim(11, 0, 1, 3, 0);
        x.pilgrim(7, 0, 1, 7, 0);
        x.pilgrim(2, 0, 1, 1, 0);
        x.give(0, 1, 1);
        x.hour(0, 2, 2);
        due("to the road where 2 and 3 are shaded, not 1", x.turn(0, 6, 0), 10);
        due("who gains", x.turn(0, 6, 1), 12);
        due("the same road", x.turn(0, 0, 0), 0);
        due("to none", x.turn(0, 4, 0), -6);
        due("nobody gains", x.turn(0, 4, 1), 0);
        x.give(2, 2, 1);
        due("who has a HAT gains nothing", x.turn(0, 6, 0), -4);
        due("but 3 does", x.turn(0, 6, 1), 8);
        x.hour(0, 4, 10);
        due("CLOUDS are not asked", x.turn(0, 6, 0), -4);
        due("the ROAD stays", x.look(13), 0);
        x.hour(0, 3, 6);
        due("and back", x.turn(0, 0, 0), 4);
    }

    private static void halts() {
        promise = 20;
        SevenToAShadow x = new SevenToAShadow();
        due("n -1", x.halts(-1, 1, 0), -1);
        due("n 13", x.halts(13, 12, 0), -1);
        due("m 0", x.halts(1, 0, 0), -1);
        due("m 13", x.halts(1, 13, 0), -1);
        due("what 2", x.halts(1, 1, 2), -1);
        due("what -1", x.halts(1, 1, -1), -1);
        due("none to walk", x.halts(0, 12, 1), 0);
        due("no heat", x.halts(0, 12, 0), 0);
        due("the first of the two coolest", x.halts(1, 1, 1), 1);
        due("both", x.halts(2, 1, 1), 2049);
        due("three", x.halts(3, 2, 1), 2051);
        due("its heat", x.halts(3, 2, 0), 4);
        due("seven, one in a row", x.halts(7, 1, 1), -1);
        due("seven, two in a row: halts at 2, 9 and three of the hottest", x.halts(7, 2, 0), 40 - 3 - 3 - 15);
        due("all", x.halts(12, 12, 1), 4095);
        due("all, eleven in a row", x.halts(12, 11, 1), -1);
        for (int h = 0; h < 12; h++) {
            x.hour(h, 2, 0);
        }
        due("all alike: the first", x.halts(3, 12, 1), 7);
        due("all alike, two in a row", x.halts(5, 2, 1), 1 + 2 + 8 + 16 + 64);
        due("all alike, one in a row", x.halts(6, 1, 1), 1365);
        x.hour(2, 2, 9);
        x.hour(2, 4, 10);
        due("HEAT as told", x.halts(3, 12, 1), 11);
    }

    private static void toldAndThief() {
        promise = 21;
        SevenToAShadow x = new SevenToAShadow();
        due("nobody", x.told(0, 5), false);
        x.pilgrim(12, 0, 1, 1, 0);
        x.pilgrim(11, 0, 1, 2, 0);
        x.give(0, 1, 1);
        due("none at first", x.look(80), -1);
        due("-2", x.told(0, -2), false);
        due("10000", x.told(0, 10000), false);
        due("nobody", x.told(-1, 0), false);
        due("nobody", x.told(2, 0), false);
        due("9999", x.told(0, 9999), true);
        due("told", x.look(80), 9999);
        due("none", x.told(0, -1), true);
        due("none is told", x.look(80), -1);
        due("0", x.told(1, 0), true);
        due("0 is told", x.look(81), 0);
        promise = 22;
        x.told(1, -1);
        due("none told: all turnings", x.thief(0), 84);
        due("the first", x.thief(1), 0);
        due("the first", x.thief(2), 1);
        due("so without one", x.thief(3), 1);
        // The PARASOL's shade falls on 11 in HOURS 0 and 1 alone: 2 * (40 - 1 - 2).
        x.told(1, 74);
        due("so as it is", x.thief(3), 1);
        due("turnings that change nothing", x.thief(0), 84 - 2 * 7 - 6);
        x.told(1, 76);
        due("not so", x.thief(3), 0);
        due("HOUR 0 turned away", x.thief(0), 7);
        due("HOUR", x.thief(1), 0);
        due("ROAD", x.thief(2), 1);
        x.told(1, 68);
        due("HOUR 2 or HOUR 9 turned to 11", x.thief(0), 2);
        due("HOUR", x.thief(1), 2);
        due("ROAD: 3 + 4 - 1 is 6", x.thief(2), 1);
        x.told(0, 1);
        due("a bearer never burns", x.thief(0), 0);
        due("no HOUR", x.thief(1), -1);
        due("no ROAD", x.thief(2), -1);
        due("not so", x.thief(3), 0);
        due("what 4", x.thief(4), -1);
        due("what -1", x.thief(-1), -1);
        x.told(0, 0);
        x.told(1, 0);
        x.give(1, 2, 1);
        due("with a HAT as well", x.thief(0), 84);
        due("ROADS are as told", x.look(13), 0);
    }

    private static void undo() {
        promise = 23;
        SevenToAShadow x = new SevenToAShadow();
        due("nothing", x.undo(), false);
        x.pilgrim(12, 0, 1, 2, 10);
        x.pilgrim(11, 0, 1, 1, 0);
        x.pilgrim(13, 0, 1, 0, 0);
        x.give(2, 1, 1);
        x.quarrel(0, 1, true);
        x.hour(1, 4, 5);
        x.give(0, 0, 0);
        x.hours(1);
        rules(x, "buy;");
        x.told(0, 3);
        x.state(99);
        due("RULES, TOLD, STATE forget nothing", x.look(9), 1);
        x.hours(11);
        due("twelve", x.look(9), 12);
        for (int n = 11; n >= 1; n--) {
            due("undo", x.undo(), true);
            due("left", x.look(9), n);
            due("NOW", x.look(1), n);
        }
        due("STATE", x.look(5), 99);
        due("place", x.of(0, 0), 0);
        due("place", x.of(1, 0), 11);
        due("water", x.of(0, 4), 10);
        due("water", x.of(1, 4), 0);
        due("burn", x.of(0, 7), 2);
        due("sold", x.of(1, 8), 0);
        due("bought", x.of(0, 9), 0);
        due("the book", x.look(4), 1);
        due("fights", x.look(3), 0);
        x.state(5);
        rules(x, "stay;stay;");
        x.told(1, 7);
        due("the first", x.undo(), true);
        due("STATE goes back, too", x.look(5), 0);
        due("RULES don't", x.look(8), 2);
        due("TOLD doesn't", x.look(81), 7);
        due("burn", x.of(0, 7), 0);
        due("nothing more", x.undo(), false);
        due("and NOW is 0", x.look(1), 0);
        forgets();
    }

    private static void forgets() {
        for (int kind = 0; kind < 14; kind++) {
            SevenToAShadow x = new SevenToAShadow();
            x.pilgrim(0, 0, 1, 0, 0);
            x.pilgrim(1, 0, 1, 0, 0);
            x.hours(3);
            boolean forgotten = kind < 6;
            switch (kind) {
                case 0: x.hour(0, 0, 2); break;
                case 1: x.set(0, 5); break;
                case 2: x.pilgrim(2, 0, 1, 0, 0); break;
                case 3: x.give(0, 0, 0); break;
                case 4: x.quarrel(0, 1, false); break;
                case 5: x.image(true); x.image(false); break;
                case 6: x.hour(0, 0, 8); break;
                case 7: x.set(2, 5); break;
                case 8: x.pilgrim(0, 0, 1, 0, 0); break;
                case 9: x.give(0, 0, 1); break;
                case 10: x.quarrel(0, 0, true); break;
                case 11: x.image(false); break;
                case 12: x.evening(); break;
                default: x.hours(10); x.walk(0, 1, 0); x.fewest(0, 11); x.turn(0, 1, 0); x.halts(3, 1, 1); x.thief(0);
            }
            due("kind " + kind + " forgets", x.look(9), forgotten ? 0 : 3);
            due("kind " + kind + ": undo", x.undo(), !forgotten);
        }
        SevenToAShadow x = new SevenToAShadow();
        x.hours(12);
        x.evening();
        due("an evening forgets", x.look(9), 0);
        due("an evening: undo", x.undo(), false);
    }

    private static void image() {
        promise = 24;
        SevenToAShadow x = new SevenToAShadow();
        due("none yet", x.image(false), false);
        x.pilgrim(0, 0, 1, 3, 20);
        x.pilgrim(1, 0, 1, 2, 0);
        x.quarrel(0, 1, true);
        x.hour(3, 3, 5);
        x.set(0, 7);
        x.set(1, 8);
        x.told(0, 44);
        x.state(1234);
        rules(x, "stay; stay;");
        x.hours(12);
        x.evening();
        x.hours(2);
        int[] before = everything(x);
        due("taken", x.image(true), true);
        due("taking it forgets nothing", x.look(9), 2);
        for (int time = 0; time < 2; time++) {
            x.hours(10);
            x.evening();
            x.hours(1);
            x.pilgrim(2, 0, 1, 9, 0);
            x.quarrel(0, 1, false);
            x.hour(3, 3, 1);
            x.set(0, 1);
            x.set(1, 1);
            x.told(0, 1);
            x.told(2, 2);
            x.state(1);
            x.give(0, 1, 1);
            x.give(0, 2, 1);
            rules(x, "flee;");
            rules(x, "flee; 1");
            x.feed(0, 0, 0, 0, 0);
            due("gone back", x.image(false), true);
            int[] after = everything(x);
            for (int i = 0; i < before.length; i++) {
                due("number " + i + " of what is", after[i], before[i]);
            }
            due("nothing can be undone", x.undo(), false);
            due("the TAPE stays", x.end(20), true);
            due("fault() stays", x.fault(0), 1);
            due("its place stays", x.fault(1), 6);
            int fights = x.look(3);
            x.hours(1);
            due("they QUARREL as they did", x.look(3), fights + 1);
            due("one can be undone", x.undo(), true);
            due("a new pilgrim is the third again", x.pilgrim(5, 0, 1, 1, 0), 2);
            due("without PARASOL", x.of(2, 5), 0);
            due("nothing told of him", x.look(82), -1);
            x.image(false);
        }
    }

    private static int[] everything(SevenToAShadow x) {
        int[] all = new int[9 + 60 + 10 + 33 + 40];
        int n = 0;
        for (int what = 0; what < 9; what++) {
            all[n++] = x.look(what);
        }
        for (int what = 10; what < 70; what++) {
            all[n++] = x.look(what);
        }
        for (int what = 80; what < 90; what++) {
            all[n++] = x.look(what);
        }
        for (int p = 0; p < 3; p++) {
            for (int what = 0; what < 11; what++) {
                all[n++] = x.of(p, what);
            }
        }
        for (int i = 0; i < 10; i++) {
            for (int what = 0; what < 4; what++) {
                all[n++] = x.book(3 * i, what);
            }
        }
        return all;
    }

    private static void look() {
        promise = 25;
        SevenToAShadow x = new SevenToAShadow();
        int[] others = {-1, MIN, MAX, 70, 79, 80, 89, 90};
        for (int what : others) {
            due("look(" + what + ")", x.look(what), -2);
        }
        x.pilgrim(0, 0, 1, 1, 0);
        due("told of 0", x.look(80), -1);
        due("told of nobody", x.look(81), -2);
        for (int p = 1; p < 10; p++) {
            x.pilgrim(p, 0, 1, 1, 0);
        }
        x.told(9, 17);
        x.quarrel(3, 4, true);
        due("told of 9", x.look(89), 17);
        due("look(90)", x.look(90), -2);
        x.state(-3);
        x.set(0, 11);
        x.set(1, 12);
        rules(x, "stay;stay;stay;");
        x.hours(12);
        x.evening();
        x.hours(1);
        int[] row = {1, 1, 10, 13, 130, -3, 11, 12, 3, 1};
        for (int what = 0; what < 10; what++) {
            due("look(" + what + ")", x.look(what), row[what]);
        }
    }
}
