import java.util.ArrayList;
import java.util.List;
import java.util.Random;

/** Runs of calls by chance (the same ones each time), each answer compared with that of the Model. */
public final class ModelTest {
    private static final int CALLS = 512;
    private static final int NEVER = -1;
    private final Random chance;
    private final RuleTexts texts;
    private final SevenToAShadow real = new SevenToAShadow();
    private final Model model = new Model();
    private final List<String> calls = new ArrayList<>();
    private boolean differs;
    /** How often of ten an argument is one that may not be. */
    private final int odd;
    private final int crowd;

    private ModelTest(long seed) {
        chance = new Random(seed);
        texts = new RuleTexts(chance);
        odd = chance.nextInt(3) == 0 ? 2 : 0;
        crowd = chance.nextInt(11);
    }

    public static void main(String[] args) {
        int runs = args.length > 0 ? Integer.parseInt(args[0]) : 2000;
        for (int seed = 1; seed <= runs; seed++) {
            ModelTest run = new ModelTest(seed);
            run.go();
            if (run.differs) {
                System.out.println("run " + seed + ":");
                run.calls.forEach(System.out::println);
                System.exit(1);
            }
        }
        System.out.println("ModelTest: " + runs + " runs are alike");
    }

    private void due(String call, int got, int want) {
        calls.add(call + " -> " + got + (got == want ? "" : ", the model: " + want));
        differs |= got != want && calls.size() <= CALLS;
    }

    private void due(String call, boolean got, boolean want) {
        due(call, got ? 1 : 0, want ? 1 : 0);
    }

    private int any(int least, int most) {
        if (chance.nextInt(10) < odd) {
            int[] odds = {least - 1, most + 1, -1, Integer.MIN_VALUE, Integer.MAX_VALUE, chance.nextInt()};
            return odds[chance.nextInt(odds.length)];
        }
        return least + chance.nextInt(most - least + 1);
    }

    private int anybody() {
        return any(0, Math.max(0, model.m.all.size() - 1));
    }

    private void go() {
        int early = chance.nextInt(4) == 0 ? chance.nextInt(crowd + 1) : NEVER;
        for (int i = 0; i < crowd; i++) {
            if (i == early) {
                due("image(true)", real.image(true), model.image(true));
            }
            addPilgrim();
        }
        equip();
        while (calls.size() < CALLS && !differs) {
            int kind = chance.nextInt(100);
            if (kind < 14) {
                tell();
            } else if (kind < 20) {
                tellRules();
            } else if (kind < 40) {
                pass();
            } else if (kind < 50) {
                goBack();
            } else if (kind < 75) {
                ask();
            } else {
                think();
            }
        }
    }

    private void addPilgrim() {
        int a = any(0, 24);
        int b = any(0, 9);
        int c = any(1, 3);
        int d = any(0, 9);
        int e = anyWater();
        due("pilgrim(" + a + ", " + b + ", " + c + ", " + d + ", " + e + ")", real.pilgrim(a, b, c, d, e),
            model.pilgrim(a, b, c, d, e));
    }

    private int anyWater() {
        int kind = chance.nextInt(8);
        return kind == 0 ? any(9980, 9999) : kind == 1 ? any(0, 0) : any(0, 60);
    }

    /** Some start with PARASOLS, HATS and QUARRELS, which single calls by chance seldom bring together. */
    private void equip() {
        int all = model.m.all.size();
        int many = chance.nextInt(4);
        int hats = chance.nextInt(7);
        for (int p = 0; p < all; p++) {
            if (chance.nextInt(6) < many) {
                due("give(" + p + ", 1, 1)", real.give(p, 1, 1), model.give(p, 1, 1));
            }
            if (chance.nextInt(12) < hats) {
                due("give(" + p + ", 2, 1)", real.give(p, 2, 1), model.give(p, 2, 1));
            }
            int q = chance.nextInt(all);
            if (chance.nextInt(3) < many) {
                due("quarrel(" + p + ", " + q + ", true)", real.quarrel(p, q, true), model.quarrel(p, q, true));
            }
        }
    }

    private void tell() {
        int kind = chance.nextInt(chance.nextInt(8) == 0 ? 7 : 5);
        if (kind == 0) {
            int[] most = {7, 4, 9, 7, 10};
            int what = any(0, 4);
            int h = any(0, 11);
            int v = any(0, what >= 0 && what < 5 ? most[what] : 9);
            due("hour(" + h + ", " + what + ", " + v + ")", real.hour(h, what, v), model.hour(h, what, v));
        } else if (kind == 1) {
            int p = anybody();
            int what = any(0, 3);
            int v = what == 3 ? anyWater() : any(0, what == 0 ? 24 : 1);
            due("give(" + p + ", " + what + ", " + v + ")", real.give(p, what, v), model.give(p, what, v));
        } else if (kind == 2) {
            int a = anybody();
            int b = anybody();
            boolean does = chance.nextInt(3) > 0;
            due("quarrel(" + a + ", " + b + ", " + does + ")", real.quarrel(a, b, does), model.quarrel(a, b, does));
        } else if (kind == 3) {
            tellBurn();
        } else if (kind == 4) {
            int v = chance.nextInt();
            due("state(" + v + ")", real.state(v), model.state(v));
        } else if (kind == 5) {
            int what = any(0, 1);
            int v = any(0, new int[] {0, 3, 9, 99}[chance.nextInt(4)]);
            v = v == 3 && chance.nextInt(4) == 0 ? 99 : v;
            due("set(" + what + ", " + v + ")", real.set(what, v), model.set(what, v));
        } else {
            addPilgrim();
        }
    }

    /** Burns that may really have been, now and then, so that thief() has something to find. */
    private void tellBurn() {
        int p = anybody();
        int burn = chance.nextInt(4) == 0 ? any(-1, 9999) : likelyBurn(p);
        due("told(" + p + ", " + burn + ")", real.told(p, burn), model.told(p, burn));
    }

    private int likelyBurn(int p) {
        if (!model.is(p) || chance.nextInt(3) == 0) {
            return Model.NONE;
        }
        int turned = chance.nextInt(12);
        int burn = 0;
        for (int h = 0; h < 12; h++) {
            int road = h == turned ? chance.nextInt(8) : model.m.hours[h][3];
            burn += model.burn(model.m.all.get(p), h, road);
        }
        return burn;
    }

    private void tellRules() {
        String text = texts.any();
        if (chance.nextInt(10) == 0) {
            int n = any(0, 400);
            due("end(" + n + ")", real.end(n), model.end(n));
        }
        if (chance.nextInt(20) > 0) {
            due("end(0)", real.end(0), model.end(0));
        }
        String whole = text + " ".repeat((20 - text.length() % 20) % 20);
        for (int i = 0; i < whole.length(); i += 20) {
            int[] five = new int[5];
            for (int k = 0; k < 20; k++) {
                five[k / 4] = five[k / 4] << 8 | whole.charAt(i + k);
            }
            due("feed(" + five[0] + ", .. )", real.feed(five[0], five[1], five[2], five[3], five[4]),
                model.feed(five[0], five[1], five[2], five[3], five[4]));
        }
        due("end(" + text.length() + ")", real.end(text.length()), model.end(text.length()));
        due("text() of " + text, real.text(), model.text());
        due("fault(0)", real.fault(0), model.fault(0));
        due("fault(1)", real.fault(1), model.fault(1));
        due("look(8)", real.look(8), model.look(8));
    }

    private void pass() {
        int n = chance.nextInt(3) == 0 ? any(1, 12) : any(1, 3);
        due("hours(" + n + ")", real.hours(n), model.hours(n));
        if (model.m.now > 9 && chance.nextInt(3) > 0) {
            int rest = 12 - model.m.now;
            due("hours(" + rest + ")", real.hours(rest), model.hours(rest));
        }
        if (chance.nextInt(3) > 0) {
            due("evening()", real.evening(), model.evening());
        }
        lastLine();
        for (int p = 0; p < model.m.all.size() && chance.nextInt(12) > 0; p++) {
            for (int what : new int[] {0, 4, 7}) {
                due("of(" + p + ", " + what + ")", real.of(p, what), model.of(p, what));
            }
        }
    }

    private void lastLine() {
        int last = model.m.book.size() - 1;
        int what = chance.nextInt(4);
        due("book(" + last + ", " + what + ")", real.book(last, what), model.book(last, what));
    }

    /** What comes on the TAPE and goes again apart from whole texts. */
    private void tape() {
        int kind = chance.nextInt(5);
        if (kind == 0) {
            int n = any(0, 400);
            due("end(" + n + ")", real.end(n), model.end(n));
        } else if (kind == 1) {
            due("text()", real.text(), model.text());
        } else if (kind == 2) {
            int what = any(0, 1);
            due("fault(" + what + ")", real.fault(what), model.fault(what));
        } else {
            int[] five = new int[5];
            for (int i = 0; i < 5; i++) {
                five[i] = chance.nextBoolean() ? chance.nextInt() : 0x2020203b;
            }
            due("feed(" + five[0] + ", .. )", real.feed(five[0], five[1], five[2], five[3], five[4]),
                model.feed(five[0], five[1], five[2], five[3], five[4]));
        }
    }

    private void goBack() {
        int kind = chance.nextInt(10);
        if (kind < 6) {
            due("undo()", real.undo(), model.undo());
        } else if (kind < 8) {
            due("image(true)", real.image(true), model.image(true));
        } else {
            due("image(false)", real.image(false), model.image(false));
        }
        for (int what = 0; what < 10; what++) {
            due("look(" + what + ")", real.look(what), model.look(what));
        }
        if (kind >= 8 && chance.nextBoolean()) {
            addPilgrim();
            askAll(model.m.all.size() - 1);
        }
    }

    private void askAll(int p) {
        for (int what = 0; what <= 10; what++) {
            due("of(" + p + ", " + what + ")", real.of(p, what), model.of(p, what));
        }
        due("look(" + (80 + p) + ")", real.look(80 + p), model.look(80 + p));
    }

    private void ask() {
        int kind = chance.nextInt(6);
        if (kind == 0) {
            int p = anybody();
            int what = any(0, 10);
            due("of(" + p + ", " + what + ")", real.of(p, what), model.of(p, what));
        } else if (kind == 1) {
            int place = any(0, 24);
            int h = any(0, 11);
            due("shade(" + place + ", " + h + ")", real.shade(place, h), model.shade(place, h));
        } else if (kind == 2) {
            int i = any(0, Math.max(0, model.m.book.size() - 1));
            int what = any(0, 3);
            due("book(" + i + ", " + what + ")", real.book(i, what), model.book(i, what));
        } else if (kind == 3) {
            tape();
        } else {
            int what = any(0, 91);
            due("look(" + what + ")", real.look(what), model.look(what));
        }
    }

    private void think() {
        int kind = chance.nextInt(5);
        int from = any(0, 11);
        int to = chance.nextInt(6) == 0 ? any(0, 11) : any(Math.max(0, Math.min(11, from)), 11);
        if (kind == 0) {
            int what = chance.nextBoolean() ? any(0, 1) : 10 + anybody();
            due("walk(" + from + ", " + to + ", " + what + ")", real.walk(from, to, what), model.walk(from, to, what));
        } else if (kind == 1) {
            due("fewest(" + from + ", " + to + ")", real.fewest(from, to), model.fewest(from, to));
        } else if (kind == 2) {
            int r = any(0, 7);
            int what = any(0, 1);
            due("turn(" + from + ", " + r + ", " + what + ")", real.turn(from, r, what), model.turn(from, r, what));
        } else if (kind == 3) {
            int n = any(0, 12);
            int k = any(1, 12);
            int what = any(0, 1);
            due("halts(" + n + ", " + k + ", " + what + ")", real.halts(n, k, what), model.halts(n, k, what));
        } else {
            int what = any(0, 3);
            due("thief(" + what + ")", real.thief(what), model.thief(what));
        }
    }
}
