import java.util.Arrays;

/**
 * Pilgrims on the salt flats, their shade and their burns.
 * The words in the names below are those of the document; its numbers for columns are kept as they are.
 */
public final class SevenToAShadow {
    public static final int NONE = -1;

    private static final int SIDE = 5;
    private static final int PLACES = SIDE * SIDE;
    private static final int HOURS = 12;
    private static final int CROWD = 10;
    private static final int LAST_DAY = 999;
    private static final int MOST_WATER = 9999;
    private static final int MOST_TOLD = 9999;
    private static final int MOST_SET = 99;
    private static final int NO_TURN = NONE - 99999;

    /** The columns of an HOUR, as hour() numbers them. */
    private static final int SUN = 0;
    private static final int ALTITUDE = 1;
    private static final int HEAT = 2;
    private static final int ROAD = 3;
    private static final int CLOUDS = 4;
    private static final int HOUR_COLUMNS = 5;
    private static final int[] MOST_OF_COLUMN = {7, 4, 9, 7, 10};
    private static final int[] FIRST_SUNS = {2, 2, 3, 3, 4, 4, 4, 4, 5, 5, 6, 6};
    private static final int[] FIRST_ALTITUDES = {0, 1, 2, 3, 4, 4, 4, 4, 3, 2, 1, 0};

    /** The columns of a PILGRIM, as of() numbers them. */
    private static final int PLACE = 0;
    private static final int TALL = 1;
    private static final int GIRTH = 2;
    private static final int SKIN = 3;
    private static final int WATER = 4;
    private static final int PARASOL = 5;
    private static final int HAT = 6;
    private static final int BURN = 7;
    private static final int SOLD = 8;
    private static final int BOUGHT = 9;
    private static final int COLUMNS = 10;

    /** The eight WAYS as steps on the map. */
    private static final int[] STEP_X = {0, 1, 1, 1, 0, -1, -1, -1};
    private static final int[] STEP_Y = {-1, -1, 0, 1, 1, 1, 0, -1};
    /** Also the mask that takes a WAY modulo 8. */
    private static final int LAST_WAY = 7;

    private static final int BOOK_LINES = 200;
    private static final int BOOK_COLUMNS = 4;
    private static final int MOST_TAPE = 400;
    private static final int FED = 20;
    private static final int RULE_LINES = 16;
    private static final int MOST_OPEN = 8;

    /** KEYWORDS, each followed by one blank; a word's number is its row here. */
    private static final String WORDS =
        "stay seek buy flee when or and not burn heat shaded water tall skin hour place bears pilgrim ";
    private static final int STAY = 0;
    private static final int SEEK = 1;
    private static final int BUY = 2;
    private static final int FLEE = 3;
    private static final int WHEN = 4;
    private static final int OR = 5;
    private static final int AND = 6;
    private static final int NOT = 7;
    private static final int FIRST_VALUE = 8;
    private static final int LAST_VALUE = 17;
    private static final int VALUES = LAST_VALUE - FIRST_VALUE + 1;

    /** TOKENS of one sign: the number of a sign is FIRST_SIGN and its row here. */
    private static final String SIGNS = ";+-*/()<=>";
    private static final int FIRST_SIGN = 18;
    private static final int SEMICOLON = 18;
    private static final int PLUS = 19;
    private static final int MINUS = 20;
    private static final int TIMES = 21;
    private static final int PART = 22;
    private static final int OPEN = 23;
    private static final int CLOSE = 24;
    private static final int LESS = 25;
    private static final int SAME = 26;
    private static final int MORE = 27;

    private static final int NUMBER = 28;
    private static final int TEXT_END = 29;
    private static final int NO_TOKEN = 30;
    /** In the code of RULES a NUMBER n stands as FIRST_NUMBER + n, above all TOKENS. */
    private static final int FIRST_NUMBER = 100;

    private final World world;
    private final World kept;
    private boolean hasImage;
    private final Past past;
    private final March march;
    private final Thought thought;
    private final Reader reader;

    public SevenToAShadow() {
        world = new World();
        kept = new World();
        past = new Past();
        march = new March(world);
        thought = new Thought(world);
        reader = new Reader();
    }

    public int state(int v) {
        int was = world.draws;
        world.draws = v;
        return was;
    }

    public boolean hour(int h, int what, int v) {
        if (!isHour(h) || what < 0 || what >= HOUR_COLUMNS || v < 0 || v > MOST_OF_COLUMN[what]) {
            return false;
        }
        world.hourRows[h * HOUR_COLUMNS + what] = v;
        past.forget();
        return true;
    }

    public boolean set(int what, int v) {
        if (what < 0 || what > 1 || v < 0 || v > MOST_SET) {
            return false;
        }
        if (what == 0) {
            world.price = v;
        } else {
            world.rest = v;
        }
        past.forget();
        return true;
    }

    public int pilgrim(int place, int tall, int girth, int skin, int water) {
        if (world.count >= CROWD || !isPlace(place) || world.whoStandsAt(place) != NONE) {
            return NONE;
        }
        if (tall < 0 || tall > 9 || girth < 1 || girth > 3 || skin < 0 || skin > 9 || water < 0 || water > MOST_WATER) {
            return NONE;
        }
        int p = world.count;
        world.count++;
        world.put(p, PLACE, place);
        world.put(p, TALL, tall);
        world.put(p, GIRTH, girth);
        world.put(p, SKIN, skin);
        world.put(p, WATER, water);
        past.forget();
        return p;
    }

    public boolean give(int p, int what, int v) {
        if (!world.isPilgrim(p) || !canBeGiven(p, what, v)) {
            return false;
        }
        if (what == 0) {
            world.put(p, PLACE, v);
        } else if (what == 1) {
            world.put(p, PARASOL, v);
        } else if (what == 2) {
            world.put(p, HAT, v);
        } else {
            world.put(p, WATER, v);
        }
        past.forget();
        return true;
    }

    private boolean canBeGiven(int p, int what, int v) {
        switch (what) {
            case 0:
                if (!isPlace(v)) {
                    return false;
                }
                int there = world.whoStandsAt(v);
                return there == NONE || there == p;
            case 1:
            case 2:
                return v == 0 || v == 1;
            case 3:
                return v >= 0 && v <= MOST_WATER;
            default:
                return false;
        }
    }

    public boolean quarrel(int a, int b, boolean does) {
        if (!world.isPilgrim(a) || !world.isPilgrim(b) || a == b) {
            return false;
        }
        if (does) {
            world.foes[a] |= 1 << b;
            world.foes[b] |= 1 << a;
        } else {
            world.foes[a] &= ~(1 << b);
            world.foes[b] &= ~(1 << a);
        }
        past.forget();
        return true;
    }

    public int feed(int a, int b, int c, int d, int e) {
        if (reader.length + FED > MOST_TAPE) {
            return NONE;
        }
        reader.addBytes(a);
        reader.addBytes(b);
        reader.addBytes(c);
        reader.addBytes(d);
        reader.addBytes(e);
        return reader.length;
    }

    public boolean end(int n) {
        if (n < 0 || n > reader.length) {
            return false;
        }
        reader.length = n;
        return true;
    }

    public int text() {
        reader.read();
        if (reader.fault != 0) {
            return NONE;
        }
        Rules former = world.rules;
        world.rules = reader.rules;
        reader.rules = former;
        return world.rules.lines;
    }

    public int fault(int what) {
        if (what == 0) {
            return reader.fault;
        }
        return what == 1 ? reader.faultPlace : NONE;
    }

    public int hours(int n) {
        if (n < 1 || n > HOURS || world.now + n > HOURS) {
            return NONE;
        }
        int burnt = 0;
        for (int i = 0; i < n; i++) {
            past.keep(world);
            burnt += march.passHour();
        }
        return burnt;
    }

    public int evening() {
        if (world.now != HOURS || world.day >= LAST_DAY) {
            return NONE;
        }
        world.day++;
        world.now = 0;
        for (int p = 0; p < world.count; p++) {
            world.put(p, BURN, Math.max(0, world.has(p, BURN) - world.rest));
        }
        past.forget();
        return world.day;
    }

    public int of(int p, int what) {
        if (!world.isPilgrim(p)) {
            return NONE;
        }
        if (what != COLUMNS) {
            return world.has(p, what);
        }
        if (!isHour(world.now)) {
            return 0;
        }
        int shade = world.shadeIn(world.now, world.inHour(world.now, ROAD), NONE);
        return world.isShaded(p, shade) ? 1 : 0;
    }

    public int shade(int place, int h) {
        if (!isPlace(place) || !isHour(h)) {
            return NONE;
        }
        return world.shadeIn(h, world.inHour(h, ROAD), NONE) >> place & 1;
    }

    public int book(int i, int what) {
        return world.book.read(i, what);
    }

    public int walk(int from, int to, int what) {
        boolean asksPlace = world.isPilgrim(what - 10);
        if (!areHours(from, to) || what != 0 && what != 1 && !asksPlace) {
            return NONE;
        }
        thought.seatAll(from, to);
        if (asksPlace) {
            return thought.seatOf(what - 10);
        }
        return what == 0 ? thought.greatestBurn() : thought.sumOfBurns();
    }

    public int fewest(int from, int to) {
        return areHours(from, to) ? thought.fewestBearers(from, to) : NONE;
    }

    public int turn(int h, int r, int what) {
        if (!isHour(h) || r < 0 || r > LAST_WAY || what < 0 || what > 1) {
            return NO_TURN;
        }
        return what == 0 ? thought.savedByTurn(h, r) : thought.gainersByTurn(h, r);
    }

    public int halts(int n, int m, int what) {
        if (n < 0 || n > HOURS || m < 1 || m > HOURS || what < 0 || what > 1) {
            return NONE;
        }
        int walked = thought.coolestHours(n, m);
        return what == 1 || walked == NONE ? walked : thought.heatOf(walked);
    }

    public boolean told(int p, int burn) {
        if (!world.isPilgrim(p) || burn < NONE || burn > MOST_TOLD) {
            return false;
        }
        world.tales[p] = burn;
        return true;
    }

    public int thief(int what) {
        if (what < 0 || what > 3) {
            return NONE;
        }
        thought.findThieves();
        switch (what) {
            case 0:
                return thought.turnings;
            case 1:
                return thought.firstHour;
            case 2:
                return thought.firstRoad;
            default:
                return thought.soWithout ? 1 : 0;
        }
    }

    public boolean undo() {
        return past.goBack(world);
    }

    public boolean image(boolean taken) {
        if (taken) {
            kept.become(world);
            hasImage = true;
            return true;
        }
        if (!hasImage) {
            return false;
        }
        world.become(kept);
        past.forget();
        return true;
    }

    public int look(int what) {
        if (what >= 80 && what < 80 + world.count) {
            return world.tales[what - 80];
        }
        if (what >= 10 && what < 10 + HOURS * HOUR_COLUMNS) {
            return world.hourRows[what - 10];
        }
        switch (what) {
            case 0:
                return world.day;
            case 1:
                return world.now;
            case 2:
                return world.count;
            case 3:
                return world.fights;
            case 4:
                return world.book.lines;
            case 5:
                return world.draws;
            case 6:
                return world.price;
            case 7:
                return world.rest;
            case 8:
                return world.rules.lines;
            case 9:
                return past.count;
            default:
                return NONE - 1;
        }
    }

    private static boolean isPlace(int place) {
        return place >= 0 && place < PLACES;
    }

    private static boolean isHour(int h) {
        return h >= 0 && h < HOURS;
    }

    private static boolean areHours(int from, int to) {
        return from >= 0 && from <= to && to < HOURS;
    }

    /** FAR: the greater of both differences. */
    private static int farBetween(int a, int b) {
        return Math.max(Math.abs(a % SIDE - b % SIDE), Math.abs(a / SIDE - b / SIDE));
    }

    /** Sets of PLACES are ints, a bit a PLACE; off the flats there is none. */
    private static int bitAt(int x, int y) {
        if (x < 0 || x >= SIDE || y < 0 || y >= SIDE) {
            return 0;
        }
        return 1 << (SIDE * y + x);
    }

    /** All that THE IMAGE keeps: what is and what was told. */
    private static final class World {
        final int[] hourRows = new int[HOURS * HOUR_COLUMNS];
        final int[] people = new int[CROWD * COLUMNS];
        /** By each PILGRIM the set of those with whom he QUARRELS. */
        final int[] foes = new int[CROWD];
        /** TOLD by each PILGRIM. */
        final int[] tales = new int[CROWD];
        final Book book = new Book();
        Rules rules = new Rules();
        /** STATE. */
        int draws;
        int day;
        int now;
        int count;
        int fights;
        int price = 5;
        int rest;

        World() {
            for (int h = 0; h < HOURS; h++) {
                int row = h * HOUR_COLUMNS;
                hourRows[row + SUN] = FIRST_SUNS[h];
                hourRows[row + ALTITUDE] = FIRST_ALTITUDES[h];
                hourRows[row + HEAT] = FIRST_ALTITUDES[h] + 1;
            }
            Arrays.fill(tales, NONE);
        }

        void become(World other) {
            System.arraycopy(other.hourRows, 0, hourRows, 0, hourRows.length);
            System.arraycopy(other.people, 0, people, 0, people.length);
            System.arraycopy(other.foes, 0, foes, 0, foes.length);
            System.arraycopy(other.tales, 0, tales, 0, tales.length);
            book.become(other.book);
            rules.become(other.rules);
            draws = other.draws;
            day = other.day;
            now = other.now;
            count = other.count;
            fights = other.fights;
            price = other.price;
            rest = other.rest;
        }

        boolean isPilgrim(int p) {
            return p >= 0 && p < count;
        }

        int has(int p, int column) {
            if (!isPilgrim(p) || column < 0 || column >= COLUMNS) {
                return NONE;
            }
            return people[p * COLUMNS + column];
        }

        void put(int p, int column, int v) {
            if (isPilgrim(p) && column >= 0 && column < COLUMNS) {
                people[p * COLUMNS + column] = v;
            }
        }

        int inHour(int h, int column) {
            if (h < 0 || h >= HOURS || column < 0 || column >= HOUR_COLUMNS) {
                return 0;
            }
            return hourRows[h * HOUR_COLUMNS + column];
        }

        int whoStandsAt(int place) {
            for (int p = 0; p < count; p++) {
                if (has(p, PLACE) == place) {
                    return p;
                }
            }
            return NONE;
        }

        boolean doQuarrel(int a, int b) {
            return isPilgrim(a) && isPilgrim(b) && (foes[a] >> b & 1) == 1;
        }

        int draw(int m) {
            draws = 1664525 * draws + 1013904223;
            return m > 0 ? (draws >>> 8) % m : 0;
        }

        /** The WAY in which SHADE falls in an HOUR, were its ROAD this one. */
        int wayOfShade(int h, int road) {
            return (inHour(h, SUN) + 4 - road) & LAST_WAY;
        }

        /** What a PARASOL in p's hands shades, whether he bears one or not. */
        int parasolShade(int p, int h, int way) {
            if (way < 0 || way > LAST_WAY) {
                return 0;
            }
            int x = has(p, PLACE) % SIDE;
            int y = has(p, PLACE) / SIDE;
            int shade = bitAt(x, y);
            int steps = 4 - inHour(h, ALTITUDE);
            for (int i = 1; i <= steps; i++) {
                shade |= bitAt(x + i * STEP_X[way], y + i * STEP_Y[way]);
            }
            return shade;
        }

        /** What p shades by being TALL; it never falls on his own PLACE. */
        int bodyShade(int p, int h, int way) {
            int girth = has(p, GIRTH);
            int highest = girth == 3 ? 3 : 2;
            if (way < 0 || way > LAST_WAY || has(p, TALL) < 5 || inHour(h, ALTITUDE) > highest) {
                return 0;
            }
            int x = has(p, PLACE) % SIDE + STEP_X[way];
            int y = has(p, PLACE) / SIDE + STEP_Y[way];
            int next = bitAt(x, y);
            if (next == 0 || girth < 2) {
                return next;
            }
            int right = (way + 2) & LAST_WAY;
            int left = (way + 6) & LAST_WAY;
            return next | bitAt(x + STEP_X[right], y + STEP_Y[right]) | bitAt(x + STEP_X[left], y + STEP_Y[left]);
        }

        /** The PLACES that are shaded in an HOUR, were its ROAD this one, by all but one (NONE: by all). */
        int shadeIn(int h, int road, int but) {
            int way = wayOfShade(h, road);
            int shade = 0;
            for (int p = 0; p < count; p++) {
                if (p == but) {
                    continue;
                }
                shade |= bodyShade(p, h, way);
                if (has(p, PARASOL) == 1) {
                    shade |= parasolShade(p, h, way);
                }
            }
            return shade;
        }

        /** SHADED, where shade is the set of all PLACES that anybody shades. */
        boolean isShaded(int p, int shade) {
            if (!isPilgrim(p)) {
                return false;
            }
            return has(p, HAT) == 1 || (shade >> has(p, PLACE) & 1) == 1;
        }
    }

    /** THE BOOK of burns. */
    private static final class Book {
        final int[] rows = new int[BOOK_LINES * BOOK_COLUMNS];
        int lines;

        void write(int who, int day, int h, int burnt) {
            if (lines >= BOOK_LINES) {
                return;
            }
            int row = lines * BOOK_COLUMNS;
            rows[row] = who;
            rows[row + 1] = day;
            rows[row + 2] = h;
            rows[row + 3] = burnt;
            lines++;
        }

        int read(int i, int what) {
            if (i < 0 || i >= lines || what < 0 || what >= BOOK_COLUMNS) {
                return NONE;
            }
            return rows[i * BOOK_COLUMNS + what];
        }

        void become(Book other) {
            System.arraycopy(other.rows, 0, rows, 0, rows.length);
            lines = other.lines;
        }
    }

    /** What is to be undone. Since NOW is 12 at most and an EVENING forgets, no more than 12 HOURS ever wait. */
    private static final class Past {
        final int[] people = new int[HOURS * CROWD * COLUMNS];
        final int[] draws = new int[HOURS];
        final int[] fights = new int[HOURS];
        final int[] bookLines = new int[HOURS];
        int count;

        void forget() {
            count = 0;
        }

        void keep(World world) {
            if (count >= HOURS) {
                return;
            }
            System.arraycopy(world.people, 0, people, count * CROWD * COLUMNS, CROWD * COLUMNS);
            draws[count] = world.draws;
            fights[count] = world.fights;
            bookLines[count] = world.book.lines;
            count++;
        }

        boolean goBack(World world) {
            if (count <= 0) {
                return false;
            }
            count--;
            System.arraycopy(people, count * CROWD * COLUMNS, world.people, 0, CROWD * COLUMNS);
            world.draws = draws[count];
            world.fights = fights[count];
            world.book.lines = bookLines[count];
            world.now--;
            return true;
        }
    }

    /** How an HOUR goes by. */
    private static final class March {
        final World world;
        /** What a line of RULES may ask of a PILGRIM, in the order of the KEYWORDS. */
        final int[] values = new int[VALUES];

        March(World world) {
            this.world = world;
        }

        int passHour() {
            int h = world.now;
            int heat = heatUnderClouds(h);
            for (int p = 0; p < world.count; p++) {
                takeTurn(p, h, heat);
            }
            int burnt = burnAll(h, heat);
            world.fights += countFights();
            world.now++;
            return burnt;
        }

        private int heatUnderClouds(int h) {
            int clouds = world.inHour(h, CLOUDS);
            if (clouds > 0 && world.draw(10) < clouds) {
                return 0;
            }
            return world.inHour(h, HEAT);
        }

        private void takeTurn(int p, int h, int heat) {
            int road = world.inHour(h, ROAD);
            int shade = world.shadeIn(h, road, NONE);
            boolean shaded = world.isShaded(p, shade);
            fillValues(p, h, heat, shaded);
            int act = world.rules.choose(values);
            if (act == FLEE) {
                flee(p);
            } else if (act == SEEK && !shaded) {
                goToNearest(p, world.shadeIn(h, road, p));
            } else if (act == BUY && !shaded) {
                buyShade(p, shade);
            }
        }

        private void fillValues(int p, int h, int heat, boolean shaded) {
            values[0] = world.has(p, BURN);
            values[1] = heat;
            values[2] = shaded ? 1 : 0;
            values[3] = world.has(p, WATER);
            values[4] = world.has(p, TALL);
            values[5] = world.has(p, SKIN);
            values[6] = h;
            values[7] = world.has(p, PLACE);
            values[8] = world.has(p, PARASOL);
            values[9] = p;
        }

        private void goToNearest(int p, int goals) {
            int own = world.has(p, PLACE);
            int best = NONE;
            int bestFar = SIDE;
            for (int place = 0; place < PLACES; place++) {
                if ((goals >> place & 1) == 0 || world.whoStandsAt(place) != NONE) {
                    continue;
                }
                int far = farBetween(own, place);
                if (far < bestFar) {
                    best = place;
                    bestFar = far;
                }
            }
            if (best != NONE) {
                world.put(p, PLACE, best);
            }
        }

        private void flee(int p) {
            if (!foeIsNear(p, world.has(p, PLACE))) {
                return;
            }
            int goals = 0;
            for (int place = 0; place < PLACES; place++) {
                if (!foeIsNear(p, place)) {
                    goals |= 1 << place;
                }
            }
            goToNearest(p, goals);
        }

        private boolean foeIsNear(int p, int place) {
            for (int q = 0; q < world.count; q++) {
                if (world.doQuarrel(p, q) && farBetween(place, world.has(q, PLACE)) <= 1) {
                    return true;
                }
            }
            return false;
        }

        private void buyShade(int p, int shade) {
            int seller = findSeller(p, shade);
            if (seller == NONE || world.has(p, WATER) < world.price) {
                return;
            }
            int own = world.has(p, PLACE);
            world.put(p, PLACE, world.has(seller, PLACE));
            world.put(seller, PLACE, own);
            world.put(p, WATER, world.has(p, WATER) - world.price);
            world.put(seller, WATER, world.has(seller, WATER) + world.price);
            world.put(p, BOUGHT, world.has(p, BOUGHT) + 1);
            world.put(seller, SOLD, world.has(seller, SOLD) + 1);
        }

        private int findSeller(int p, int shade) {
            int seller = NONE;
            int least = world.has(p, BURN);
            for (int q = 0; q < world.count; q++) {
                boolean keepsHisPlace = world.has(q, PARASOL) == 1 || world.has(q, HAT) == 1;
                if (!keepsHisPlace && world.isShaded(q, shade) && world.has(q, BURN) < least) {
                    seller = q;
                    least = world.has(q, BURN);
                }
            }
            return seller;
        }

        private int burnAll(int h, int heat) {
            int shade = world.shadeIn(h, world.inHour(h, ROAD), NONE);
            int sum = 0;
            for (int p = 0; p < world.count; p++) {
                int burnt = world.isShaded(p, shade) ? 0 : heat * world.has(p, SKIN);
                if (burnt > 0) {
                    world.put(p, BURN, world.has(p, BURN) + burnt);
                    world.book.write(p, world.day, h, burnt);
                    sum += burnt;
                }
            }
            return sum;
        }

        private int countFights() {
            int fights = 0;
            for (int a = 0; a < world.count; a++) {
                for (int b = a + 1; b < world.count; b++) {
                    if (world.doQuarrel(a, b) && farBetween(world.has(a, PLACE), world.has(b, PLACE)) <= 1) {
                        fights++;
                    }
                }
            }
            return fights;
        }
    }

    /** What is found IN THOUGHT: nothing here changes the World. */
    private static final class Thought {
        final World world;
        final int[] suns = new int[PLACES];
        final int[] seats = new int[CROWD];
        /** By each HOUR the set of PILGRIMS who need a PARASOL's shade. */
        final int[] needs = new int[HOURS];
        /** By each HOUR and PILGRIM whom his PARASOL would shade. */
        final int[] covers = new int[HOURS * CROWD];
        final int[] dayBurns = new int[CROWD];
        int turnings;
        int firstHour;
        int firstRoad;
        boolean soWithout;

        Thought(World world) {
            this.world = world;
        }

        /** WALK: gives each PILGRIM his PLACE in seats. */
        void seatAll(int from, int to) {
            addSuns(from, to);
            int taken = 0;
            int seated = 0;
            for (int p = 0; p < world.count; p++) {
                if (world.has(p, PARASOL) == 1) {
                    seats[p] = world.has(p, PLACE);
                    taken |= 1 << seats[p];
                    seated |= 1 << p;
                }
            }
            for (int i = 0; i < world.count; i++) {
                int p = palestOf(seated);
                int place = coolestBut(taken);
                if (p == NONE || place == NONE) {
                    break;
                }
                seats[p] = place;
                taken |= 1 << place;
                seated |= 1 << p;
            }
        }

        private void addSuns(int from, int to) {
            Arrays.fill(suns, 0);
            for (int h = from; h <= to; h++) {
                int way = world.wayOfShade(h, world.inHour(h, ROAD));
                int shade = 0;
                for (int p = 0; p < world.count; p++) {
                    if (world.has(p, PARASOL) == 1) {
                        shade |= world.parasolShade(p, h, way);
                    }
                }
                for (int place = 0; place < PLACES; place++) {
                    if ((shade >> place & 1) == 0) {
                        suns[place] += world.inHour(h, HEAT);
                    }
                }
            }
        }

        private int palestOf(int seated) {
            int best = NONE;
            for (int p = 0; p < world.count; p++) {
                if ((seated >> p & 1) == 0 && (best == NONE || world.has(p, SKIN) > world.has(best, SKIN))) {
                    best = p;
                }
            }
            return best;
        }

        private int coolestBut(int taken) {
            int best = NONE;
            for (int place = 0; place < PLACES; place++) {
                if ((taken >> place & 1) == 0 && (best == NONE || suns[place] < suns[best])) {
                    best = place;
                }
            }
            return best;
        }

        int seatOf(int p) {
            return world.isPilgrim(p) ? seats[p] : NONE;
        }

        /** A bearer's own PLACE has no SUNS, so that he may be asked like the others. */
        private int seatBurn(int p) {
            int place = seatOf(p);
            return isPlace(place) ? suns[place] * world.has(p, SKIN) : 0;
        }

        int greatestBurn() {
            int greatest = 0;
            for (int p = 0; p < world.count; p++) {
                greatest = Math.max(greatest, seatBurn(p));
            }
            return greatest;
        }

        int sumOfBurns() {
            int sum = 0;
            for (int p = 0; p < world.count; p++) {
                sum += seatBurn(p);
            }
            return sum;
        }

        int fewestBearers(int from, int to) {
            for (int h = from; h <= to; h++) {
                findNeeds(h);
            }
            int best = (1 << world.count) - 1;
            for (int set = 0; set < 1 << world.count; set++) {
                if (Integer.bitCount(set) < Integer.bitCount(best) && isEnough(set, from, to)) {
                    best = set;
                }
            }
            return best;
        }

        private void findNeeds(int h) {
            if (!isHour(h)) {
                return;
            }
            int way = world.wayOfShade(h, world.inHour(h, ROAD));
            int bodies = 0;
            for (int p = 0; p < world.count; p++) {
                bodies |= world.bodyShade(p, h, way);
                covers[h * CROWD + p] = standingIn(world.parasolShade(p, h, way));
            }
            needs[h] = 0;
            for (int p = 0; p < world.count; p++) {
                if (!world.isShaded(p, bodies)) {
                    needs[h] |= 1 << p;
                }
            }
        }

        private int standingIn(int shade) {
            int set = 0;
            for (int p = 0; p < world.count; p++) {
                if ((shade >> world.has(p, PLACE) & 1) == 1) {
                    set |= 1 << p;
                }
            }
            return set;
        }

        private boolean isEnough(int set, int from, int to) {
            for (int h = Math.max(0, from); h <= to && h < HOURS; h++) {
                int missing = needs[h];
                for (int p = 0; p < world.count && missing != 0; p++) {
                    if ((set >> p & 1) == 1) {
                        missing &= ~covers[h * CROWD + p];
                    }
                }
                if (missing != 0) {
                    return false;
                }
            }
            return true;
        }

        private int burnOf(int p, int h, int shade) {
            return world.isShaded(p, shade) ? 0 : world.inHour(h, HEAT) * world.has(p, SKIN);
        }

        int savedByTurn(int h, int road) {
            int before = world.shadeIn(h, world.inHour(h, ROAD), NONE);
            int after = world.shadeIn(h, road, NONE);
            int saved = 0;
            for (int p = 0; p < world.count; p++) {
                saved += burnOf(p, h, before) - burnOf(p, h, after);
            }
            return saved;
        }

        int gainersByTurn(int h, int road) {
            int before = world.shadeIn(h, world.inHour(h, ROAD), NONE);
            int after = world.shadeIn(h, road, NONE);
            int gainers = 0;
            for (int p = 0; p < world.count; p++) {
                if (burnOf(p, h, after) < burnOf(p, h, before)) {
                    gainers |= 1 << p;
                }
            }
            return gainers;
        }

        /** HALTS, as a set; NONE if there is no way. */
        int coolestHours(int n, int m) {
            int best = NONE;
            int bestHeat = 0;
            // HOUR 0 is the highest bit of the order, so that counting down meets "walked first" first.
            for (int order = (1 << HOURS) - 1; order >= 0; order--) {
                if (Integer.bitCount(order) != n || hasRowAbove(order, m)) {
                    continue;
                }
                int walked = hoursOf(order);
                int heat = heatOf(walked);
                if (best == NONE || heat < bestHeat) {
                    best = walked;
                    bestHeat = heat;
                }
            }
            return best;
        }

        private static int hoursOf(int order) {
            int walked = 0;
            for (int h = 0; h < HOURS; h++) {
                if ((order >> (HOURS - 1 - h) & 1) == 1) {
                    walked |= 1 << h;
                }
            }
            return walked;
        }

        private static boolean hasRowAbove(int set, int m) {
            int starts = set;
            for (int i = 0; i < m; i++) {
                starts &= starts >> 1;
            }
            return starts != 0;
        }

        int heatOf(int walked) {
            int heat = 0;
            for (int h = 0; h < HOURS; h++) {
                if ((walked >> h & 1) == 1) {
                    heat += world.inHour(h, HEAT);
                }
            }
            return heat;
        }

        /** Leaves in turnings, firstHour, firstRoad and soWithout what thief() answers. */
        void findThieves() {
            turnings = 0;
            firstHour = NONE;
            firstRoad = NONE;
            Arrays.fill(dayBurns, 0);
            for (int h = 0; h < HOURS; h++) {
                addBurns(h, world.inHour(h, ROAD), 1);
            }
            soWithout = isAsTold();
            for (int h = 0; h < HOURS; h++) {
                addBurns(h, world.inHour(h, ROAD), -1);
                for (int road = 0; road <= LAST_WAY; road++) {
                    if (road != world.inHour(h, ROAD)) {
                        tryTurning(h, road);
                    }
                }
                addBurns(h, world.inHour(h, ROAD), 1);
            }
        }

        private void addBurns(int h, int road, int times) {
            int shade = world.shadeIn(h, road, NONE);
            for (int p = 0; p < world.count; p++) {
                dayBurns[p] += times * burnOf(p, h, shade);
            }
        }

        private boolean isAsTold() {
            for (int p = 0; p < world.count; p++) {
                if (world.tales[p] != NONE && world.tales[p] != dayBurns[p]) {
                    return false;
                }
            }
            return true;
        }

        private void tryTurning(int h, int road) {
            addBurns(h, road, 1);
            if (isAsTold()) {
                if (turnings == 0) {
                    firstHour = h;
                    firstRoad = road;
                }
                turnings++;
            }
            addBurns(h, road, -1);
        }
    }

    /** RULES, as they are gone by: each line what to do, and its B in postfix code. */
    private static final class Rules {
        final int[] acts = new int[RULE_LINES];
        /** Where the code of each line ends; it begins where the line before ends. */
        final int[] ends = new int[RULE_LINES];
        /** Never longer than the TAPE: a TOKEN gives one number at most. */
        final int[] code = new int[MOST_TAPE];
        /** Eight ( or not that are open, each with a part of an or and of an and, need no more. */
        final int[] stack = new int[40];
        int lines;
        int size;

        void clear() {
            lines = 0;
            size = 0;
        }

        void become(Rules other) {
            System.arraycopy(other.acts, 0, acts, 0, acts.length);
            System.arraycopy(other.ends, 0, ends, 0, ends.length);
            System.arraycopy(other.code, 0, code, 0, code.length);
            lines = other.lines;
            size = other.size;
        }

        void addCode(int c) {
            if (size < code.length) {
                code[size] = c;
                size++;
            }
        }

        void addLine(int act) {
            if (lines < RULE_LINES) {
                acts[lines] = act;
                ends[lines] = size;
                lines++;
            }
        }

        /** The first line whose B is so tells what to do. */
        int choose(int[] values) {
            int from = 0;
            for (int i = 0; i < lines && i < RULE_LINES; i++) {
                if (holds(from, ends[i], values)) {
                    return acts[i];
                }
                from = ends[i];
            }
            return STAY;
        }

        private boolean holds(int from, int to, int[] values) {
            int top = 0;
            for (int i = Math.max(0, from); i < to && i < code.length; i++) {
                top = takeCode(code[i], top, values);
            }
            return top == 0 || stack[0] != 0;
        }

        /** Answers how many numbers are on the stack then. */
        private int takeCode(int c, int top, int[] values) {
            if (c >= FIRST_NUMBER) {
                return push(c - FIRST_NUMBER, top);
            }
            if (c >= FIRST_VALUE && c <= LAST_VALUE && c - FIRST_VALUE < values.length) {
                return push(values[c - FIRST_VALUE], top);
            }
            if (c == NOT && top >= 1) {
                stack[top - 1] = 1 - stack[top - 1];
                return top;
            }
            if (top < 2) {
                return top;
            }
            stack[top - 2] = reckon(c, stack[top - 2], stack[top - 1]);
            return top - 1;
        }

        private int push(int v, int top) {
            if (top < 0 || top >= stack.length) {
                return top;
            }
            stack[top] = v;
            return top + 1;
        }

        private static int reckon(int sign, int a, int b) {
            switch (sign) {
                case OR:
                    return a | b;
                case AND:
                    return a & b;
                case LESS:
                    return a < b ? 1 : 0;
                case SAME:
                    return a == b ? 1 : 0;
                case MORE:
                    return a > b ? 1 : 0;
                case PLUS:
                    return a + b;
                case MINUS:
                    return a - b;
                case TIMES:
                    return a * b;
                default:
                    return b == 0 ? 0 : a / b;
            }
        }
    }

    /**
     * The TAPE, and how it is read: TOKEN by TOKEN, by what is due next, with what is not closed yet on a stack.
     * Nothing calls itself here, so that no TEXT can go too deep.
     */
    private static final class Reader {
        /** What is due next. */
        private static final int LINE = 0;
        private static final int LINE_REST = 1;
        private static final int CLAIM = 2;
        private static final int UNIT = 3;
        private static final int DIVISOR = 4;
        private static final int AFTER_UNIT = 5;
        private static final int AFTER_CLAIM = 6;

        final byte[] tape = new byte[MOST_TAPE];
        int length;
        int fault;
        int faultPlace = NONE;
        /** Nobody goes by these: what is read comes here first, so that a FAULT leaves the others as they are. */
        Rules rules = new Rules();

        private int at;
        private int token;
        private int tokenPlace;
        private int number;

        private int due;
        private int act;
        /** Whether the C that is being read has its < = > already. */
        private boolean compared;
        private final int[] waiting = new int[40];
        private int top;
        private int open;
        private int brackets;

        void addBytes(int four) {
            for (int shift = 24; shift >= 0; shift -= 8) {
                if (length < MOST_TAPE) {
                    tape[length] = (byte) (four >> shift);
                    length++;
                }
            }
        }

        /** Reads the TAPE and leaves it empty. */
        void read() {
            rules.clear();
            fault = 0;
            faultPlace = NONE;
            at = 0;
            due = LINE;
            top = 0;
            open = 0;
            brackets = 0;
            // A TOKEN has one sign at least, the end comes after the last.
            for (int i = 0; i <= length; i++) {
                scan();
                fault = take();
                if (fault != 0 || token == TEXT_END) {
                    break;
                }
            }
            if (fault != 0) {
                faultPlace = tokenPlace;
            }
            length = 0;
        }

        private int byteAt(int i) {
            return i >= 0 && i < length && i < MOST_TAPE ? tape[i] & 255 : 0;
        }

        private static boolean isLetter(int c) {
            return c >= 'a' && c <= 'z' || c >= 'A' && c <= 'Z';
        }

        private static boolean isDigit(int c) {
            return c >= '0' && c <= '9';
        }

        private void scan() {
            while (at < length && (byteAt(at) == ' ' || byteAt(at) == '\n')) {
                at++;
            }
            tokenPlace = at;
            if (at >= length) {
                token = TEXT_END;
            } else if (isLetter(byteAt(at))) {
                scanWord();
            } else if (isDigit(byteAt(at))) {
                scanNumber();
            } else {
                int row = SIGNS.indexOf((char) byteAt(at));
                token = row < 0 ? NO_TOKEN : FIRST_SIGN + row;
                at++;
            }
        }

        private void scanNumber() {
            number = 0;
            while (at < length && isDigit(byteAt(at))) {
                number = number * 10 + byteAt(at) - '0';
                at++;
            }
            token = at - tokenPlace <= 4 ? NUMBER : NO_TOKEN;
        }

        private void scanWord() {
            while (at < length && isLetter(byteAt(at))) {
                at++;
            }
            token = NO_TOKEN;
            int word = 0;
            int from = 0;
            for (int i = 0; i < WORDS.length(); i++) {
                if (WORDS.charAt(i) != ' ') {
                    continue;
                }
                if (isWord(from, i)) {
                    token = word;
                }
                word++;
                from = i + 1;
            }
        }

        /** Whether the TOKEN's letters are those of WORDS from .. to - 1. */
        private boolean isWord(int from, int to) {
            if (to - from != at - tokenPlace) {
                return false;
            }
            for (int i = from; i < to && i < WORDS.length(); i++) {
                if (WORDS.charAt(i) != byteAt(tokenPlace + i - from)) {
                    return false;
                }
            }
            return true;
        }

        /** Takes the TOKEN as what is due: its FAULT, or 0. */
        private int take() {
            switch (due) {
                case LINE:
                    return takeLine();
                case LINE_REST:
                    return takeLineRest();
                case CLAIM:
                    return takeClaim();
                case UNIT:
                    return takeUnit();
                case DIVISOR:
                    return takeDivisor();
                case AFTER_UNIT:
                    return takeAfterUnit();
                default:
                    return takeAfterClaim();
            }
        }

        private int takeLine() {
            if (token == TEXT_END) {
                return 0;
            }
            if (token > FLEE) {
                return 1;
            }
            if (rules.lines >= RULE_LINES) {
                return 3;
            }
            act = token;
            due = LINE_REST;
            return 0;
        }

        private int takeLineRest() {
            if (token == WHEN) {
                due = CLAIM;
                compared = false;
                return 0;
            }
            if (token != SEMICOLON) {
                return 1;
            }
            closeLine();
            return 0;
        }

        private void closeLine() {
            rules.addLine(act);
            due = LINE;
        }

        private int takeClaim() {
            if (token != NOT && token != OPEN) {
                return takeUnit();
            }
            if (open >= MOST_OPEN) {
                return 3;
            }
            open++;
            if (token == OPEN) {
                brackets++;
            }
            hold(token);
            return 0;
        }

        private int takeUnit() {
            if (token == NUMBER) {
                rules.addCode(FIRST_NUMBER + number);
            } else if (token >= FIRST_VALUE && token <= LAST_VALUE) {
                rules.addCode(token);
            } else {
                return 1;
            }
            due = AFTER_UNIT;
            return 0;
        }

        private int takeDivisor() {
            if (token != NUMBER) {
                return 1;
            }
            return number == 0 ? 2 : takeUnit();
        }

        private int takeAfterUnit() {
            boolean reckons = token >= PLUS && token <= PART;
            boolean compares = token >= LESS && token <= MORE;
            if (compares && !compared || reckons) {
                compared = compared || compares;
                takeOperator();
                due = token == PART ? DIVISOR : UNIT;
                return 0;
            }
            return compared ? takeAfterClaim() : 1;
        }

        private int takeAfterClaim() {
            if (token == AND || token == OR) {
                takeOperator();
                compared = false;
                due = CLAIM;
            } else if (token == CLOSE && brackets > 0) {
                settleDownTo(1);
                closeBracket();
                due = AFTER_CLAIM;
            } else if (token == SEMICOLON && brackets == 0) {
                settleDownTo(1);
                closeLine();
            } else {
                return 1;
            }
            return 0;
        }

        private void takeOperator() {
            settleDownTo(rankOf(token));
            hold(token);
        }

        private void hold(int sign) {
            if (top < waiting.length) {
                waiting[top] = sign;
                top++;
            }
        }

        /** What waits and binds at least so strongly is settled: it comes into the code; a bracket stops it. */
        private void settleDownTo(int rank) {
            for (int i = 0; i < waiting.length && top > 0 && top <= waiting.length; i++) {
                int sign = waiting[top - 1];
                if (rankOf(sign) < rank) {
                    return;
                }
                if (sign == NOT) {
                    open--;
                }
                rules.addCode(sign);
                top--;
            }
        }

        private void closeBracket() {
            if (top > 0) {
                top--;
            }
            brackets--;
            open--;
        }

        private static int rankOf(int sign) {
            switch (sign) {
                case OPEN:
                    return 0;
                case OR:
                    return 1;
                case AND:
                    return 2;
                case NOT:
                    return 3;
                case LESS:
                case SAME:
                case MORE:
                    return 4;
                case PLUS:
                case MINUS:
                    return 5;
                default:
                    return 6;
            }
        }
    }
}
