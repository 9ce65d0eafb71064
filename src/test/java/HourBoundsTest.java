import java.util.ArrayList;
import java.util.List;

/** "Terms", ==== 2, an HOUR and an EVENING: who goes, buys, burns and fights at the bounds that are named. */
public final class HourBoundsTest {
    private static final int NONE = Checks.NONE;
    private static final Checks t = new Checks("HourBoundsTest");

    public static void main(String[] args) {
        cloudsAboveZero();
        oneDrawAnHour();
        heatIsToldStill();
        asAllStandThen();
        seekIfNotShaded();
        seekFreePlaces();
        seekShadeOfOthers();
        seekAndBuyByTheHour();
        seekTheNearest();
        seekTheLeast();
        seekNone();
        fleeFarOne();
        fleeOthersAlone();
        fleeFarTwo();
        fleeFree();
        fleeNone();
        buyIfNotShaded();
        buyForPrice();
        buyFromWhom();
        buyBurnLess();
        buyLeastBurn();
        buyAmongTen();
        buyChanges();
        buyOften();
        buyNothing();
        burns();
        bookAboveZero();
        bookFull();
        bookFullWithinAnHour();
        fightsFarOne();
        fightsOfEachTwo();
        fightsWhereTheyStandThen();
        eveningAtTwelve();
        eveningRest();
        eveningLeavesTheRest();
        lastDay();
        t.finish();
    }

    private static void cloudsAboveZero() {
        t.sentence("if CLOUDS are above 0, a DRAW of 10");
        for (int clouds = 0; clouds <= 10; clouds++) {
            SevenToAShadow x = new SevenToAShadow();
            x.state(5);
            x.hour(0, 4, clouds);
            x.hours(1);
            t.due("STATE after CLOUDS " + clouds, x.look(5), clouds == 0 ? 5 : 1664525 * 5 + 1013904223);
        }
    }

    private static void oneDrawAnHour() {
        t.sentence("a DRAW of 10, one an HOUR, whoever is there");
        for (int many = 0; many <= 10; many += 5) {
            SevenToAShadow x = new SevenToAShadow();
            for (int p = 0; p < many; p++) {
                x.pilgrim(p, 0, 1, 1, 0);
            }
            int state = 0;
            for (int h = 1; h < 12; h += 2) {
                x.hour(h, 4, 1);
            }
            for (int h = 0; h < 12; h++) {
                x.hours(1);
                state = h % 2 == 0 ? state : 1664525 * state + 1013904223;
                t.due("STATE after HOUR " + h, x.look(5), state);
            }
        }
    }

    private static void heatIsToldStill() {
        t.sentence("below CLOUDS its HEAT is 0: in that HOUR of that DAY");
        SevenToAShadow x = new SevenToAShadow();
        x.pilgrim(0, 0, 1, 1, 0);
        x.hour(0, 4, 10);
        t.due("nobody burns", x.hours(1), 0);
        t.due("as it was told", x.look(12), 1);
        t.due("nor is another HOUR so", x.hours(1), 2);
        x.hours(10);
        x.evening();
        x.hour(0, 4, 0);
        t.due("the next DAY", x.hours(1), 1);
    }

    private static void asAllStandThen() {
        t.sentence("Then PILGRIMS by number, as all stand then");
        SevenToAShadow x = new SevenToAShadow();
        x.pilgrim(6, 0, 1, 0, 0);
        x.pilgrim(7, 0, 1, 0, 0);
        x.quarrel(0, 1, true);
        Checks.rules(x, "flee;");
        x.hours(1);
        t.due("the first goes: of 0, 5, 10 the least", x.of(0, 0), 0);
        t.due("so the second has none to flee from", x.of(1, 0), 7);
        shadedAsAllStand();
        sellersAsAllStand();
    }

    /** PILGRIM 0 bears a PARASOL and flees from 1, in HOUR 0 or 1, both by WAY 6. */
    private static SevenToAShadow fleeing(int bearer, int foe, int other, int skin) {
        SevenToAShadow x = new SevenToAShadow();
        x.pilgrim(bearer, 0, 1, 0, 0);
        x.pilgrim(foe, 0, 1, 0, 0);
        x.pilgrim(other, 0, 1, skin, 9);
        x.give(0, 1, 1);
        x.quarrel(0, 1, true);
        return x;
    }

    private static void shadedAsAllStand() {
        SevenToAShadow gone = fleeing(12, 13, 10, 0);
        Checks.rules(gone, "flee when pilgrim = 0; seek when pilgrim = 2 and shaded = 0;");
        gone.hours(1);
        t.due("the bearer goes from 12 to 6", gone.of(0, 0), 6);
        t.due("so 10 is shaded no more, but 5", gone.of(2, 0), 5);
        SevenToAShadow come = fleeing(7, 2, 10, 0);
        come.pilgrim(24, 0, 1, 0, 0);
        come.give(3, 1, 1);
        Checks.rules(come, "flee when pilgrim = 0; seek when pilgrim = 2;");
        come.hours(1);
        t.due("the bearer goes from 7 to 11", come.of(0, 0), 11);
        t.due("so 10 is shaded, and none goes from it to 20", come.of(2, 0), 10);
    }

    private static void sellersAsAllStand() {
        for (int who = 0; who < 2; who++) {
            SevenToAShadow x = fleeing(12, 13, 10, 0);
            x.pilgrim(24, 0, 1, 1, 9);
            x.hours(1);
            Checks.rules(x, "flee when pilgrim = " + (who == 0 ? "0" : "9") + "; buy when pilgrim = 3;");
            x.hours(1);
            t.due("24 buys of 10, if the bearer is there", x.of(3, 0), who == 0 ? 24 : 10);
        }
    }

    /** In HOUR 0 shade falls by WAY 6, x less; ALTITUDE is as told. */
    private static SevenToAShadow flats(int altitude, int... places) {
        SevenToAShadow x = new SevenToAShadow();
        x.hour(0, 1, altitude);
        for (int place : places) {
            x.pilgrim(place, 0, 1, 1, 9);
        }
        return x;
    }

    /** Where PILGRIM p is after HOUR 0 with this line for him alone. */
    private static int goes(SevenToAShadow x, int p, String act) {
        Checks.rules(x, act + " when pilgrim = " + p + ";");
        x.hours(1);
        return x.of(p, 0);
    }

    private static void seekIfNotShaded() {
        t.sentence("seek: if he is not SHADED");
        SevenToAShadow hat = flats(0, 12, 24);
        hat.give(0, 1, 1);
        hat.give(1, 2, 1);
        t.due("who has a HAT", goes(hat, 1, "seek"), 24);
        SevenToAShadow bearer = flats(0, 12, 24);
        bearer.give(0, 1, 1);
        bearer.give(1, 1, 1);
        t.due("who bears a PARASOL", goes(bearer, 1, "seek"), 24);
        SevenToAShadow shaded = flats(0, 12, 10);
        shaded.give(0, 1, 1);
        t.due("who is shaded by another", goes(shaded, 1, "seek"), 10);
        SevenToAShadow not = flats(1, 14, 10);
        not.give(0, 1, 1);
        t.due("whom the shade does not reach by one PLACE", goes(not, 1, "seek"), 11);
    }

    private static void seekFreePlaces() {
        t.sentence("of all free PLACES");
        SevenToAShadow x = flats(2, 13, 12, 24);
        x.give(0, 1, 1);
        t.due("12 and 13 are taken, 11 is not", goes(x, 2, "seek"), 11);
        SevenToAShadow y = flats(3, 13, 12, 24);
        y.give(0, 1, 1);
        t.due("12 and 13 are taken: he stays", goes(y, 2, "seek"), 24);
    }

    private static void seekShadeOfOthers() {
        t.sentence("that are shaded by others");
        SevenToAShadow x = new SevenToAShadow();
        x.pilgrim(12, 9, 3, 1, 0);
        t.due("his own shade is none", goes(x, 0, "seek"), 12);
        SevenToAShadow y = new SevenToAShadow();
        y.pilgrim(12, 9, 3, 1, 0);
        y.pilgrim(22, 9, 1, 1, 0);
        t.due("another's is, if farther off", goes(y, 0, "seek"), 21);
        SevenToAShadow z = flats(0, 12, 24);
        z.give(0, 1, 1);
        z.hour(0, 3, 2);
        t.due("with ROAD 2 the shade of 12 falls on 17 and 22", goes(z, 1, "seek"), 17);
    }

    private static void seekAndBuyByTheHour() {
        t.sentence("seek, buy: PLACES that are shaded, who are SHADED: in this HOUR");
        for (int h = 1; h < 12; h++) {
            int shaded = Checks.NEXT[Checks.unlikeWay(h)];
            SevenToAShadow x = Checks.unlikeHours();
            x.pilgrim(12, 0, 1, 0, 0);
            x.give(0, 1, 1);
            x.pilgrim(0, 0, 1, 1, 9);
            x.hours(h);
            x.image(true);
            t.due("seek in HOUR " + h, goes(x, 1, "seek"), shaded);
            x.image(false);
            x.pilgrim(shaded, 0, 1, 0, 0);
            t.due("buy in HOUR " + h, goes(x, 1, "buy"), shaded);
            x.image(false);
            x.pilgrim(Checks.NEXT[(Checks.unlikeWay(h) + 1) % 8], 0, 1, 0, 0);
            t.due("buy of one who is not SHADED in HOUR " + h, goes(x, 1, "buy"), 0);
        }
    }

    private static void seekTheNearest() {
        t.sentence("he goes to the nearest (FAR: the greater of both differences)");
        SevenToAShadow x = new SevenToAShadow();
        x.pilgrim(14, 9, 1, 1, 0);
        x.pilgrim(3, 9, 1, 1, 0);
        x.pilgrim(10, 0, 1, 1, 0);
        t.due("2 is FAR 2 (2 and 2), 13 is FAR 3 (3 and 0)", goes(x, 2, "seek"), 2);
        SevenToAShadow y = new SevenToAShadow();
        y.pilgrim(1, 9, 1, 1, 0);
        y.pilgrim(24, 0, 1, 1, 0);
        t.due("FAR 4 in both", goes(y, 1, "seek"), 0);
        SevenToAShadow z = new SevenToAShadow();
        z.pilgrim(1, 9, 1, 1, 0);
        z.pilgrim(24, 9, 1, 1, 0);
        z.pilgrim(18, 0, 1, 1, 0);
        t.due("FAR 1 before FAR 3", goes(z, 2, "seek"), 23);
    }

    private static void seekTheLeast() {
        t.sentence("of several the least");
        SevenToAShadow x = new SevenToAShadow();
        x.pilgrim(17, 9, 1, 1, 0);
        x.pilgrim(9, 9, 1, 1, 0);
        x.pilgrim(12, 0, 1, 1, 0);
        t.due("of 8 and 16", goes(x, 2, "seek"), 8);
        SevenToAShadow y = new SevenToAShadow();
        y.pilgrim(4, 9, 1, 1, 0);
        y.pilgrim(19, 9, 1, 1, 0);
        y.pilgrim(10, 0, 1, 1, 0);
        t.due("of 3 and 18, FAR 3", goes(y, 2, "seek"), 3);
    }

    private static void seekNone() {
        t.sentence("seek: .. if there is one");
        SevenToAShadow alone = flats(0, 12);
        t.due("alone", goes(alone, 0, "seek"), 12);
        SevenToAShadow high = flats(4, 12, 13);
        high.give(0, 1, 1);
        t.due("ALTITUDE 4: only the bearer's own is shaded", goes(high, 1, "seek"), 13);
        t.due("and he burns", high.of(1, 7), 1);
    }

    private static void fleeFarOne() {
        t.sentence("flee: if another one with whom he QUARRELS is FAR 1 or less");
        for (int foe = 0; foe < 25; foe++) {
            if (foe == 12) {
                continue;
            }
            SevenToAShadow x = flats(0, 12, foe);
            x.quarrel(0, 1, true);
            boolean near = foe % 5 >= 1 && foe % 5 <= 3 && foe / 5 >= 1 && foe / 5 <= 3;
            t.due("he flees from " + foe, goes(x, 0, "flee") != 12, near);
            t.due("the other stays", x.of(1, 0), foe);
        }
    }

    private static void fleeOthersAlone() {
        t.sentence("another one with whom he QUARRELS");
        SevenToAShadow x = flats(0, 12, 13, 11);
        x.quarrel(1, 2, true);
        t.due("not from those who QUARREL with each other", goes(x, 0, "flee"), 12);
        SevenToAShadow y = flats(0, 12, 13);
        y.quarrel(0, 1, true);
        y.quarrel(1, 0, false);
        t.due("nor from one with whom he no longer does", goes(y, 0, "flee"), 12);
        SevenToAShadow z = flats(0, 12, 13);
        z.quarrel(1, 0, true);
        t.due("in whatever order it was told", goes(z, 0, "flee") != 12, true);
    }

    private static void fleeFarTwo() {
        t.sentence("the nearest free PLACE that is FAR 2 or more from all such");
        SevenToAShadow x = flats(0, 0, 1);
        x.quarrel(0, 1, true);
        t.due("FAR 2 from 1: of 10, 11, 12 (FAR 2 from him) the least", goes(x, 0, "flee"), 10);
        SevenToAShadow y = flats(0, 12, 13);
        y.quarrel(0, 1, true);
        t.due("FAR 1 from him, FAR 2 from 13: of 6, 11, 16 the least", goes(y, 0, "flee"), 6);
        SevenToAShadow z = flats(0, 12, 13, 0);
        z.quarrel(0, 1, true);
        z.quarrel(0, 2, true);
        t.due("6 is FAR 1 from 0, with whom he QUARRELS too", goes(z, 0, "flee"), 11);
        SevenToAShadow w = flats(0, 12, 13, 0);
        w.quarrel(0, 1, true);
        t.due("and if he does not", goes(w, 0, "flee"), 6);
    }

    private static void fleeFree() {
        t.sentence("the nearest free PLACE");
        SevenToAShadow x = flats(0, 12, 13, 6, 11);
        x.quarrel(0, 1, true);
        t.due("6 and 11 are taken", goes(x, 0, "flee"), 16);
        SevenToAShadow y = flats(0, 12, 13, 6, 11, 16);
        y.quarrel(0, 1, true);
        t.due("16, too: of those FAR 2 the least", goes(y, 0, "flee"), 0);
        SevenToAShadow z = flats(0, 0, 6, 13, 16, 3);
        for (int q = 1; q < 4; q++) {
            z.quarrel(0, q, true);
        }
        t.due("6, 13, 16 leave 3, 4, 23, 24, and 3 is taken: of those FAR 4 the least", goes(z, 0, "flee"), 4);
    }

    private static void fleeNone() {
        t.sentence("flee: .. if there is one");
        SevenToAShadow x = flats(0, 12, 6, 8, 16, 18);
        for (int q = 1; q < 5; q++) {
            x.quarrel(0, q, true);
        }
        t.due("no PLACE is FAR 2 from all four", goes(x, 0, "flee"), 12);
        int[][] others = {{}, {18}, {18, 19}, {18, 19, 23}, {18, 19, 23, 24}};
        int[] goals = {18, 19, 23, 24, 12};
        for (int i = 0; i < others.length; i++) {
            SevenToAShadow y = flats(0, 12, 6, 8, 16);
            for (int q = 1; q < 4; q++) {
                y.quarrel(0, q, true);
            }
            for (int place : others[i]) {
                y.pilgrim(place, 0, 1, 0, 0);
            }
            t.due(i + " of 18, 19, 23, 24, that alone are FAR 2 from all three, are taken", goes(y, 0, "flee"), goals[i]);
        }
    }

    /** PILGRIM 0 buys: SKIN and WATER as told; 1 stands where he burns in HOUR 0, then in the shade of 2. */
    private static SevenToAShadow market(int skin, int water, int sellersSkin) {
        SevenToAShadow x = new SevenToAShadow();
        for (int h = 0; h < 12; h++) {
            x.hour(h, 0, 2);
            x.hour(h, 1, 0);
            x.hour(h, 2, 1);
        }
        x.pilgrim(24, 0, 1, skin, water);
        x.pilgrim(20, 0, 1, sellersSkin, 7);
        x.pilgrim(12, 0, 1, 1, 0);
        x.give(2, 1, 1);
        x.hours(1);
        x.give(1, 0, 11);
        Checks.rules(x, "buy when pilgrim = 0;");
        return x;
    }

    private static void buys(String what, SevenToAShadow x, boolean want) {
        int water = x.of(0, 4);
        int others = x.of(1, 4);
        int place = x.of(1, 0);
        x.hours(1);
        t.due(what + ": where he is", x.of(0, 0), want ? place : 24);
        t.due(what + ": where the other is", x.of(1, 0), want ? 24 : place);
        t.due(what + ": BOUGHT", x.of(0, 9), want ? 1 : 0);
        t.due(what + ": SOLD", x.of(1, 8), want ? 1 : 0);
        t.due(what + ": WATER", x.of(0, 4), want ? water - x.look(6) : water);
        t.due(what + ": the other's WATER", x.of(1, 4), want ? others + x.look(6) : others);
        t.due(what + ": he did not sell", x.of(0, 8), 0);
        t.due(what + ": the other did not buy", x.of(1, 9), 0);
    }

    private static void buyIfNotShaded() {
        t.sentence("buy: if he is not SHADED");
        buys("not SHADED", market(2, 9, 1), true);
        SevenToAShadow hat = market(2, 9, 1);
        hat.give(0, 2, 1);
        buys("a HAT", hat, false);
        SevenToAShadow bearer = market(2, 9, 1);
        bearer.give(0, 1, 1);
        buys("a PARASOL", bearer, false);
        SevenToAShadow shaded = market(2, 9, 1);
        shaded.pilgrim(23, 0, 1, 0, 0);
        shaded.give(3, 1, 1);
        shaded.hour(1, 0, 6);
        shaded.give(2, 0, 10);
        buys("another's PARASOL (and 11 is shaded still)", shaded, false);
    }

    private static void buyForPrice() {
        t.sentence("and has PRICE (0 .. 99 of WATER; 5 at first)");
        buys("WATER 5 of 5", market(2, 5, 1), true);
        buys("WATER 4 of 5", market(2, 4, 1), false);
        for (int price : new int[] {0, 1, 98, 99}) {
            SevenToAShadow just = market(2, price, 1);
            just.set(0, price);
            buys("just PRICE " + price, just, true);
            SevenToAShadow more = market(2, price + 1, 1);
            more.set(0, price);
            buys("more than PRICE " + price, more, true);
            if (price > 0) {
                SevenToAShadow less = market(2, price - 1, 1);
                less.set(0, price);
                buys("less than PRICE " + price, less, false);
            }
        }
    }

    private static void buyFromWhom() {
        t.sentence("of all who are SHADED and have .. no PARASOL, no HAT");
        SevenToAShadow sun = market(2, 9, 1);
        sun.give(1, 0, 13);
        buys("not SHADED", sun, false);
        SevenToAShadow hat = market(2, 9, 1);
        hat.give(1, 2, 1);
        buys("a HAT", hat, false);
        SevenToAShadow bearer = market(2, 9, 1);
        bearer.give(1, 1, 1);
        buys("a PARASOL", bearer, false);
        SevenToAShadow tall = market(2, 9, 1);
        tall.give(2, 1, 0);
        tall.pilgrim(1, 5, 1, 0, 0);
        tall.give(1, 0, 0);
        tall.hour(1, 1, 2);
        buys("SHADED by one who is TALL", tall, true);
        SevenToAShadow high = market(2, 9, 1);
        high.give(2, 1, 0);
        high.pilgrim(1, 5, 1, 0, 0);
        high.give(1, 0, 0);
        high.hour(1, 1, 3);
        buys("not SHADED by one who is TALL, ALTITUDE 3", high, false);
        SevenToAShadow buyers = new SevenToAShadow();
        buyers.pilgrim(24, 5, 1, 1, 9);
        buyers.pilgrim(0, 0, 1, 0, 0);
        buyers.hours(1);
        buyers.give(1, 0, 23);
        Checks.rules(buyers, "buy when pilgrim = 0;");
        buys("SHADED by the buyer, who is TALL", buyers, true);
    }

    private static void buyBurnLess() {
        t.sentence("and have a BURN less than his");
        buys("2 and 1", market(2, 9, 1), true);
        buys("1 and 0", market(1, 9, 0), true);
        buys("2 and 2", market(2, 9, 2), false);
        buys("0 and 0", market(0, 9, 0), false);
        buys("1 and 2", market(1, 9, 2), false);
    }

    /** PILGRIMS 2, 3, 4 stand in the shade of 5 with BURNS as told; who sells to 0? */
    private static int seller(int... burns) {
        SevenToAShadow x = new SevenToAShadow();
        x.pilgrim(24, 0, 1, 5, 9);
        x.pilgrim(23, 0, 1, 0, 0);
        int[] places = {11, 12, 13};
        for (int i = 0; i < 3; i++) {
            x.pilgrim(places[i], 0, 1, burns[i], 0);
        }
        x.pilgrim(14, 0, 1, 0, 0);
        x.hours(1);
        x.give(5, 1, 1);
        Checks.rules(x, "buy when pilgrim = 0;");
        x.hours(1);
        for (int p = 2; p < 5; p++) {
            if (x.of(p, 8) == 1) {
                return p;
            }
        }
        return NONE;
    }

    private static void buyLeastBurn() {
        t.sentence("the one with the least BURN (of several the least)");
        t.due("3, 2, 1", seller(3, 2, 1), 4);
        t.due("1, 2, 3", seller(1, 2, 3), 2);
        t.due("2, 1, 2", seller(2, 1, 2), 3);
        t.due("1, 1, 1", seller(1, 1, 1), 2);
        t.due("2, 1, 1", seller(2, 1, 1), 3);
        t.due("5, 5, 4", seller(5, 5, 4), 4);
        t.due("5, 5, 5", seller(5, 5, 5), NONE);
        t.due("6, 7, 8", seller(6, 7, 8), NONE);
        t.due("0, 0, 0", seller(0, 0, 0), 2);
        SevenToAShadow x = flats(0, 24, 10, 11);
        x.pilgrim(20, 0, 1, 9, 0);
        x.pilgrim(12, 0, 1, 1, 0);
        x.give(4, 1, 1);
        x.give(3, 2, 1);
        x.hours(1);
        x.give(1, 0, 0);
        x.give(3, 0, 10);
        x.give(3, 2, 0);
        t.due("SKIN is not asked, though it is 9", goes(x, 0, "buy"), 11);
        t.due("of 11 and 10 the least number", x.of(2, 8), 1);
    }

    /** Any of ten may sell to any other: the bearer stands at 14, the seller at 10, the buyer in the sun. */
    private static void buyAmongTen() {
        t.sentence("of all who are SHADED: PILGRIMS 0 .. 9");
        for (int seller = 0; seller < 10; seller++) {
            int buyer = (seller + 1) % 10;
            int bearer = (seller + 2) % 10;
            SevenToAShadow x = new SevenToAShadow();
            x.hour(1, 1, 0);
            for (int p = 0; p < 10; p++) {
                int place = p == seller ? 10 : p == bearer ? 14 : p < 5 ? p : p + 15;
                x.pilgrim(place, 0, 1, p == buyer ? 1 : 0, 5);
            }
            x.hours(1);
            x.give(bearer, 1, 1);
            Checks.rules(x, "buy;");
            x.hours(1);
            t.due(buyer + " bought from " + seller, x.of(buyer, 0), 10);
            t.due("SOLD", x.of(seller, 8), 1);
            t.due("WATER", x.of(seller, 4), 10);
        }
    }

    private static void buyChanges() {
        t.sentence("they change PLACES, he pays PRICE: before all burn");
        SevenToAShadow x = market(2, 9, 1);
        x.hours(1);
        t.due("he burns no more", x.of(0, 7), 2);
        t.due("the other does", x.of(1, 7), 2);
        x.give(2, 1, 0);
        t.due("nobody has a PARASOL: all three burn again", x.hours(1), 2 + 1 + 1);
        t.due("he, too", x.of(0, 7), 4);
        SevenToAShadow y = market(2, 9, 1);
        y.give(1, 3, 9999);
        y.hours(1);
        t.due("who is paid may have more than can be told", y.of(1, 4), 10004);
    }

    private static void buyOften() {
        t.sentence("SOLD, BOUGHT (how often)");
        SevenToAShadow x = market(1, 99, 0);
        for (int often = 1; often <= 9; often++) {
            buys(x, often);
            x.give(1, 0, 20);
            x.give(0, 0, 24);
            x.give(1, 0, 11);
        }
    }

    private static void buys(SevenToAShadow x, int often) {
        x.hours(1);
        t.due("where he is, the time " + often, x.of(0, 0), 11);
        t.due("BOUGHT", x.of(0, 9), often);
        t.due("SOLD by him", x.of(0, 8), 0);
        t.due("SOLD", x.of(1, 8), often);
        t.due("BOUGHT by the other", x.of(1, 9), 0);
        t.due("WATER", x.of(0, 4), 99 - 5 * often);
        t.due("WATER of the other", x.of(1, 4), 7 + 5 * often);
    }

    private static void buyNothing() {
        t.sentence("buy: nobody is there to buy from");
        SevenToAShadow x = new SevenToAShadow();
        x.pilgrim(0, 0, 1, 1, 9);
        Checks.rules(x, "buy;");
        x.hours(12);
        t.due("PLACE", x.of(0, 0), 0);
        t.due("WATER", x.of(0, 4), 9);
        t.due("BOUGHT", x.of(0, 9), 0);
    }

    private static void burns() {
        t.sentence("each who is not SHADED has HEAT times SKIN as BURN more");
        int[][] all = {{0, 0}, {0, 9}, {9, 0}, {1, 1}, {9, 9}, {1, 9}, {9, 1}};
        for (int[] one : all) {
            SevenToAShadow x = new SevenToAShadow();
            x.hour(0, 2, one[0]);
            x.pilgrim(0, 0, 1, one[1], 0);
            x.pilgrim(24, 0, 1, one[1], 0);
            x.give(1, 2, 1);
            int burnt = one[0] * one[1];
            t.due("HEAT " + one[0] + ", SKIN " + one[1], x.hours(1), burnt);
            t.due("BURN", x.of(0, 7), burnt);
            t.due("BURN of one who is SHADED", x.of(1, 7), 0);
        }
        SevenToAShadow gone = fleeing(12, 13, 10, 3);
        Checks.rules(gone, "flee when pilgrim = 0;");
        t.due("when all have gone: the bearer went away", gone.hours(1), 3);
        SevenToAShadow come = fleeing(7, 2, 10, 3);
        Checks.rules(come, "flee when pilgrim = 0;");
        t.due("when all have gone: the bearer came", come.hours(1), 0);
    }

    private static void bookAboveZero() {
        t.sentence("THE BOOK: who, DAY, HOUR, how much, if it is above 0");
        SevenToAShadow x = new SevenToAShadow();
        x.hour(1, 2, 0);
        x.pilgrim(0, 0, 1, 0, 0);
        x.pilgrim(1, 0, 1, 1, 0);
        x.pilgrim(2, 0, 1, 1, 0);
        x.give(2, 2, 1);
        x.hours(1);
        t.due("1 of the three", x.look(4), 1);
        t.due("who", x.book(0, 0), 1);
        t.due("how much", x.book(0, 3), 1);
        x.hours(1);
        t.due("none without HEAT", x.look(4), 1);
        x.hours(1);
        t.due("one more", x.look(4), 2);
        t.due("HOUR", x.book(1, 2), 2);
    }

    private static void bookFull() {
        t.sentence("200 lines at most; no more then");
        SevenToAShadow x = new SevenToAShadow();
        for (int p = 0; p < 10; p++) {
            x.pilgrim(p, 0, 1, 1, 0);
        }
        x.hours(12);
        x.evening();
        x.hours(7);
        t.due("190", x.look(4), 190);
        x.hours(1);
        t.due("200", x.look(4), 200);
        t.due("the last is of", x.book(199, 0), 9);
        t.due("DAY", x.book(199, 1), 1);
        t.due("HOUR", x.book(199, 2), 7);
        t.due("how much", x.book(199, 3), 5);
        t.due("all burn on", x.hours(1), 40);
        t.due("200 still", x.look(4), 200);
        t.due("the last is of", x.book(199, 2), 7);
        t.due("none such", x.book(200, 0), NONE);
        t.due("the first is as it was", x.book(0, 2), 0);
        t.due("undone", x.undo(), true);
        t.due("200 still", x.look(4), 200);
        t.due("undone", x.undo(), true);
        t.due("190 again", x.look(4), 190);
        t.due("none such", x.book(190, 0), NONE);
        t.due("the last is of", x.book(189, 2), 6);
    }

    private static void bookFullWithinAnHour() {
        t.sentence("200 lines at most, within an HOUR");
        SevenToAShadow x = new SevenToAShadow();
        for (int p = 0; p < 7; p++) {
            x.pilgrim(p, 0, 1, p + 1, 0);
        }
        x.hours(12);
        x.evening();
        x.hours(12);
        x.evening();
        x.hours(4);
        t.due("28 HOURS", x.look(4), 196);
        int before = x.of(6, 7);
        t.due("all burn", x.hours(1), 5 * 28);
        t.due("four lines of seven", x.look(4), 200);
        t.due("who", x.book(199, 0), 3);
        t.due("DAY", x.book(199, 1), 2);
        t.due("HOUR", x.book(199, 2), 4);
        t.due("how much", x.book(199, 3), 20);
        t.due("BURN of one who is not in it", x.of(6, 7), before + 35);
        x.undo();
        t.due("back to", x.look(4), 196);
    }

    private static int fightsOfTwo(int a, int b) {
        SevenToAShadow x = flats(0, a, b);
        x.quarrel(0, 1, true);
        x.hours(1);
        return x.look(3);
    }

    private static void fightsFarOne() {
        t.sentence("for each two who QUARREL and are FAR 1 at most FIGHTS are one more");
        for (int foe = 0; foe < 25; foe++) {
            if (foe != 12) {
                boolean near = foe % 5 >= 1 && foe % 5 <= 3 && foe / 5 >= 1 && foe / 5 <= 3;
                t.due("12 and " + foe, fightsOfTwo(12, foe), near ? 1 : 0);
            }
        }
    }

    private static void fightsOfEachTwo() {
        t.sentence("for each two");
        SevenToAShadow x = flats(0, 0, 1, 5, 6);
        for (int a = 0; a < 4; a++) {
            for (int b = 0; b < 4; b++) {
                t.due("quarrel(" + a + ", " + b + ")", x.quarrel(a, b, true), a != b);
            }
        }
        x.hours(1);
        t.due("six of four", x.look(3), 6);
        x.quarrel(3, 0, false);
        x.hours(2);
        t.due("five more, twice", x.look(3), 16);
        SevenToAShadow none = flats(0, 0, 1, 5, 6);
        none.hours(12);
        t.due("nobody QUARRELS", none.look(3), 0);
    }

    private static void fightsWhereTheyStandThen() {
        t.sentence("Then .. FIGHTS are one more: when all have gone");
        SevenToAShadow x = flats(0, 12, 13);
        x.quarrel(0, 1, true);
        Checks.rules(x, "flee;");
        x.hours(1);
        t.due("he fled first", x.look(3), 0);
        SevenToAShadow y = new SevenToAShadow();
        y.pilgrim(24, 0, 1, 1, 0);
        y.pilgrim(12, 0, 1, 1, 0);
        y.give(1, 1, 1);
        y.quarrel(0, 1, true);
        Checks.rules(y, "seek;");
        y.hours(1);
        t.due("he went to 11, beside 12, if 11 is nearest; 10 is FAR 4, 11 FAR 3", y.of(0, 0), 11);
        t.due("and fights there", y.look(3), 1);
    }

    private static void eveningAtTwelve() {
        t.sentence("An EVENING (NOW 12): DAY is one more, NOW 0");
        for (int now = 0; now <= 12; now++) {
            SevenToAShadow x = new SevenToAShadow();
            if (now > 0) {
                x.hours(now);
            }
            t.due("evening at NOW " + now, x.evening(), now == 12 ? 1 : NONE);
            t.due("DAY", x.look(0), now == 12 ? 1 : 0);
            t.due("NOW", x.look(1), now == 12 ? 0 : now);
        }
    }

    private static void eveningRest() {
        t.sentence("each BURN is less by REST (0 .. 99; 0 at first; 0 at least)");
        // HEAT 9 in two HOURS and 1 in the others: BURN is 28 times SKIN.
        int[][] all = {{0, 28}, {1, 27}, {27, 1}, {28, 0}, {29, 0}, {99, 0}};
        for (int[] one : all) {
            SevenToAShadow x = new SevenToAShadow();
            for (int h = 0; h < 12; h++) {
                x.hour(h, 2, h < 2 ? 9 : 1);
            }
            x.pilgrim(0, 0, 1, 1, 0);
            x.pilgrim(1, 0, 1, 0, 0);
            x.pilgrim(2, 0, 1, 4, 0);
            if (one[0] > 0) {
                x.set(1, one[0]);
            }
            x.hours(12);
            t.due("BURN before", x.of(0, 7), 28);
            x.evening();
            t.due("BURN 28, REST " + one[0], x.of(0, 7), one[1]);
            t.due("BURN 0, REST " + one[0], x.of(1, 7), 0);
            t.due("BURN 112, REST " + one[0], x.of(2, 7), 112 - one[0]);
        }
    }

    private static void eveningLeavesTheRest() {
        t.sentence("An EVENING: nothing else is changed");
        SevenToAShadow x = Checks.scene();
        x.give(3, 0, 22);
        x.give(1, 0, 21);
        Checks.rules(x, "stay;");
        int fights = x.look(3) + 8;
        x.hours(8);
        t.due("FIGHTS", x.look(3), fights);
        int[] kept = {2, 3, 4, 5, 6, 7, 8};
        int[] before = new int[kept.length];
        for (int i = 0; i < kept.length; i++) {
            before[i] = x.look(kept[i]);
        }
        List<Integer> people = lasting(x);
        t.due("evening", x.evening(), 2);
        for (int i = 0; i < kept.length; i++) {
            t.due("look(" + kept[i] + ")", x.look(kept[i]), before[i]);
        }
        t.alike("an EVENING", lasting(x), people);
        t.due("TOLD", x.look(81), 30);
        x.hours(1);
        t.due("they QUARREL still", x.look(3), fights + 1);
        SevenToAShadow y = market(1, 9, 0);
        y.hours(11);
        t.due("BOUGHT", y.of(0, 9), 1);
        t.due("SOLD", y.of(1, 8), 1);
        people = lasting(y);
        y.evening();
        t.alike("an EVENING after a purchase", lasting(y), people);
    }

    /** Of each PILGRIM all but BURN and whether he is SHADED, of THE BOOK two lines, of each HOUR what was told. */
    private static List<Integer> lasting(SevenToAShadow x) {
        List<Integer> seen = new ArrayList<>();
        int all = x.look(2);
        for (int p = 0; p < all; p++) {
            for (int what : new int[] {0, 1, 2, 3, 4, 5, 6, 8, 9}) {
                seen.add(x.of(p, what));
            }
        }
        int last = x.look(4) - 1;
        for (int what = 0; what < 4; what++) {
            seen.add(x.book(0, what));
            seen.add(x.book(last, what));
        }
        for (int what = 10; what < 70; what++) {
            seen.add(x.look(what));
        }
        return seen;
    }

    /** DAY 999 takes more calls than the 512 that the document promises anything about; it is seen all the same. */
    private static void lastDay() {
        t.sentence("a DAY (0 .. 999; 0 at first)");
        SevenToAShadow x = new SevenToAShadow();
        t.due("DAY", x.look(0), 0);
        for (int day = 1; day <= 999; day++) {
            x.hours(12);
            t.due("evening", x.evening(), day);
        }
        x.hours(12);
        t.due("evening on DAY 999", x.evening(), NONE);
        t.due("DAY", x.look(0), 999);
        t.due("NOW", x.look(1), 12);
        t.due("what can be undone", x.look(9), 12);
    }
}
