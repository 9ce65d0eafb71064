import java.util.ArrayList;
import java.util.List;
import java.util.function.Supplier;
import java.util.function.ToIntFunction;

/** What the tests by hand share: counting what is not as due, texts on the TAPE, and a look at all that can be seen. */
final class Checks {
    static final int MIN = Integer.MIN_VALUE;
    static final int MAX = Integer.MAX_VALUE;
    static final int NONE = SevenToAShadow.NONE;
    private final String name;
    private String sentence = "";
    private int wrong;
    private int asked;

    Checks(String name) {
        this.name = name;
    }

    /** The words of the document that are tested from here on. */
    void sentence(String words) {
        sentence = words;
    }

    void due(String what, int got, int want) {
        asked++;
        if (got != want) {
            wrong++;
            System.out.println(sentence + ": " + what + " answered " + got + ", due is " + want);
        }
    }

    void due(String what, boolean got, boolean want) {
        due(what, got ? 1 : 0, want ? 1 : 0);
    }

    void finish() {
        System.out.println(name + ": " + asked + " answers, " + (wrong == 0 ? "all as due" : wrong + " wrong"));
        System.exit(wrong == 0 ? 0 : 1);
    }

    /** From two below the least to two above the most, and the two ends of the ints. */
    static int[] around(int least, int most) {
        int[] all = new int[most - least + 7];
        int n = 0;
        for (int v = least - 2; v <= most + 2; v++) {
            all[n++] = v;
        }
        all[n++] = MIN;
        all[n] = MAX;
        return all;
    }

    static boolean in(int v, int least, int most) {
        return v >= least && v <= most;
    }

    /** The text comes on the TAPE, the last bytes that make twenty are cut off again. */
    static void feedText(SevenToAShadow x, String text) {
        x.end(0);
        for (int i = 0; i < text.length(); i += 20) {
            int[] five = new int[5];
            for (int k = 0; k < 20; k++) {
                five[k / 4] = five[k / 4] << 8 | (i + k < text.length() ? text.charAt(i + k) : 0);
            }
            x.feed(five[0], five[1], five[2], five[3], five[4]);
        }
        x.end(text.length());
    }

    static int rules(SevenToAShadow x, String text) {
        feedText(x, text);
        return x.text();
    }

    /** A new object that reads the text: how many lines it has. */
    void lines(String text, int want) {
        SevenToAShadow x = new SevenToAShadow();
        due("text() of " + text, rules(x, text), want);
        due("fault(0) of " + text, x.fault(0), 0);
        due("fault(1) of " + text, x.fault(1), NONE);
        due("look(8) after " + text, x.look(8), want);
    }

    /** A new object that finds the text at fault. */
    void fault(String text, int number, int place) {
        SevenToAShadow x = new SevenToAShadow();
        due("text() of " + text, rules(x, text), NONE);
        due("fault(0) of " + text, x.fault(0), number);
        due("fault(1) of " + text, x.fault(1), place);
    }

    static int places(int... all) {
        int set = 0;
        for (int place : all) {
            set |= 1 << place;
        }
        return set;
    }

    /** The set of PLACES that are shaded by anybody. */
    static int shadeIn(SevenToAShadow x, int h) {
        int set = 0;
        for (int place = 0; place < 25; place++) {
            set |= x.shade(place, h) << place;
        }
        return set;
    }

    /** The PLACES next to 12, by WAYS. */
    static final int[] NEXT = {7, 8, 13, 18, 17, 16, 11, 6};

    /** HOURS that are all unlike: ALTITUDE 3, so that a PARASOL shades one more PLACE, by WAYS that go round. */
    static SevenToAShadow unlikeHours() {
        SevenToAShadow x = new SevenToAShadow();
        for (int h = 0; h < 12; h++) {
            x.hour(h, 0, unlikeSun(h));
            x.hour(h, 1, 3);
            x.hour(h, 2, unlikeHeat(h));
            x.hour(h, 3, unlikeRoad(h));
        }
        return x;
    }

    /** With a bearer at 12, and eight around him, of whom the one by WAY w has the number and the SKIN w + 1. */
    static SevenToAShadow unlikeRound() {
        SevenToAShadow x = unlikeHours();
        x.pilgrim(12, 0, 1, 9, 0);
        x.give(0, 1, 1);
        for (int way = 0; way < 8; way++) {
            x.pilgrim(NEXT[way], 0, 1, way + 1, 0);
        }
        return x;
    }

    private static int unlikeSun(int h) {
        return (3 * h + 1) % 8;
    }

    static int unlikeHeat(int h) {
        return 1 + (5 * h + 4) % 9;
    }

    static int unlikeRoad(int h) {
        return (5 * h + h / 4 + 3) % 8;
    }

    static int unlikeWay(int h, int road) {
        return Math.floorMod(unlikeSun(h) + 4 - road, 8);
    }

    static int unlikeWay(int h) {
        return unlikeWay(h, unlikeRoad(h));
    }

    /** A run after which nothing is as it is at first; made anew it is the same again. NOW is 4, DAY 1. */
    static SevenToAShadow scene() {
        SevenToAShadow x = new SevenToAShadow();
        x.pilgrim(12, 0, 1, 2, 10);
        x.pilgrim(24, 6, 2, 3, 40);
        x.pilgrim(11, 0, 1, 1, 0);
        x.pilgrim(23, 0, 3, 9, 7);
        x.give(0, 1, 1);
        x.give(3, 2, 1);
        x.quarrel(1, 3, true);
        x.state(77);
        for (int h = 0; h < 12; h += 2) {
            x.hour(h, 4, 5);
        }
        x.hour(5, 3, 3);
        x.set(0, 3);
        x.set(1, 2);
        x.told(1, 30);
        rules(x, "flee when pilgrim = 3; seek;");
        x.image(true);
        rules(x, "buy when pilgrim = 1 and hour < 2; seek when hour > 2; stay;");
        x.hours(12);
        x.evening();
        x.hours(4);
        rules(x, "stay; 1");
        feedText(x, "stay;seek;stay;flee;");
        return x;
    }

    /** The same with NOW 12. */
    static SevenToAShadow lateScene() {
        SevenToAShadow x = scene();
        x.hours(8);
        return x;
    }

    /** The same with ten PILGRIMS. */
    static SevenToAShadow fullScene() {
        SevenToAShadow x = scene();
        for (int place = 0; x.look(2) < 10; place++) {
            x.pilgrim(place, 5, 1, 1, 1);
        }
        x.hours(2);
        return x;
    }

    /** The call answers this and leaves everything as it is: a twin that was not called goes on in the same way. */
    void changesNothing(String call, Supplier<SevenToAShadow> scene, ToIntFunction<SevenToAShadow> done, int answer) {
        SevenToAShadow x = scene.get();
        due(call, done.applyAsInt(x), answer);
        alike(call, wayOfWorld(x), wayOfWorld(scene.get()));
        SevenToAShadow y = scene.get();
        done.applyAsInt(y);
        alike(call, wayOfTape(y), wayOfTape(scene.get()));
    }

    void alike(String call, List<Integer> got, List<Integer> want) {
        due("how much is seen after " + call, got.size(), want.size());
        for (int i = 0; i < got.size() && i < want.size(); i++) {
            due("number " + i + " of what is seen after " + call, got.get(i), want.get(i));
        }
    }

    /** All that is, how it goes on and back. */
    static List<Integer> wayOfWorld(SevenToAShadow x) {
        List<Integer> seen = new ArrayList<>();
        seeHours(x, seen);
        see(x, seen, 5, 6, 8, 9, 10);
        seen.add(x.fault(0));
        seen.add(x.fault(1));
        seen.add(x.hours(1));
        see(x, seen);
        for (int i = 0; i < 14; i++) {
            seen.add(x.undo() ? 1 : 0);
            seen.add(x.look(1));
            seen.add(x.look(5));
        }
        see(x, seen);
        seen.add(x.image(false) ? 1 : 0);
        seen.add(x.look(9));
        seen.add(x.hours(12 - x.look(1)));
        see(x, seen);
        return seen;
    }

    private static void seeHours(SevenToAShadow x, List<Integer> seen) {
        for (int what = 10; what < 70; what++) {
            seen.add(x.look(what));
        }
    }

    /** What look() tells, of each PILGRIM PLACE, WATER, BURN and the columns named, and the last line of THE BOOK. */
    private static void see(SevenToAShadow x, List<Integer> seen, int... columns) {
        for (int what = 0; what < 10; what++) {
            seen.add(x.look(what));
        }
        int all = x.look(2);
        for (int p = 0; p < all; p++) {
            seen.add(x.of(p, 0));
            seen.add(x.of(p, 4));
            seen.add(x.of(p, 7));
            for (int what : columns) {
                seen.add(x.of(p, what));
            }
            if (columns.length > 0) {
                seen.add(x.look(80 + p));
            }
        }
        int last = x.look(4) - 1;
        for (int what = 0; what < 4; what++) {
            seen.add(x.book(last, what));
        }
    }

    /** What the TAPE has (20 bytes in the scenes) and how it goes on by its RULES. */
    static List<Integer> wayOfTape(SevenToAShadow x) {
        List<Integer> seen = new ArrayList<>();
        seen.add(x.end(21) ? 1 : 0);
        seen.add(x.end(20) ? 1 : 0);
        seen.add(x.text());
        seen.add(x.fault(0));
        seen.add(x.fault(1));
        seen.add(x.hours(1));
        see(x, seen);
        return seen;
    }
}
