import java.util.Random;

/** Texts of rules by chance: whole ones by the grammar, and ones with something wrong in them. */
final class RuleTexts {
    private static final String[] ACTS = {"stay", "seek", "buy", "flee"};
    private static final String[] UNITS = {"burn", "heat", "shaded", "water", "tall", "skin", "hour", "place",
        "bears", "pilgrim"};
    private static final String[] SCRAPS = {"stay", "seek", "buy", "flee", "when", "or", "and", "not", "burn", "heat",
        "shaded", "water", "tall", "skin", "hour", "place", "bears", "pilgrim", ";", "+", "-", "*", "/", "(", ")", "<",
        "=", ">", "0", "0000", "00000", "7", "12345", "9999", "Stay", "burnt", ".", "\t", "\r", "\0", "\u00e9", "_"};
    private static final String[] NUMBERS = {"0", "1", "2", "007", "010", "0000", "999", "9999", "9999", "9999"};
    private final Random chance;
    /** In some texts most is NUMBERS and products, so that ints wrap and go below 0. */
    private boolean great;

    RuleTexts(Random chance) {
        this.chance = chance;
    }

    String any() {
        String text = whole();
        int wrongs = chance.nextInt(3) == 0 ? 1 + chance.nextInt(3) : 0;
        for (int i = 0; i < wrongs; i++) {
            text = harm(text);
        }
        return text.length() > 400 ? text.substring(0, 400) : text;
    }

    private String whole() {
        StringBuilder b = new StringBuilder();
        great = chance.nextInt(4) == 0;
        int kind = chance.nextInt(12);
        int lines = kind == 0 ? 14 + chance.nextInt(6) : chance.nextInt(5);
        for (int i = 0; i < lines && b.length() < 330; i++) {
            b.append(gap()).append(ACTS[chance.nextInt(4)]);
            if (kind != 0 && chance.nextInt(4) > 0) {
                b.append(must()).append("when").append(must());
                either(b, kind == 1 ? 10 : 3);
            }
            b.append(gap()).append(';');
        }
        return b.append(gap()).toString();
    }

    private void either(StringBuilder b, int deep) {
        both(b, deep);
        while (chance.nextInt(4) == 0) {
            b.append(must()).append("or").append(must());
            both(b, deep);
        }
    }

    private void both(StringBuilder b, int deep) {
        claim(b, deep);
        while (chance.nextInt(4) == 0) {
            b.append(must()).append("and").append(must());
            claim(b, deep);
        }
    }

    private void claim(StringBuilder b, int deep) {
        int kind = chance.nextInt(deep > 4 ? 12 : 5);
        if (deep > 0 && kind == 0 || deep > 4 && kind < 6) {
            b.append("not").append(must());
            claim(b, deep - 1);
        } else if (deep > 0 && kind == 1 || deep > 4 && kind < 11) {
            b.append("(").append(gap());
            either(b, deep - 1);
            b.append(gap()).append(")");
        } else {
            sum(b);
            b.append(gap()).append("<=>".charAt(chance.nextInt(3))).append(gap());
            sum(b);
        }
    }

    private void sum(StringBuilder b) {
        product(b);
        while (chance.nextInt(great ? 2 : 4) == 0) {
            b.append(gap()).append("+-".charAt(chance.nextInt(2))).append(gap());
            product(b);
        }
    }

    private void product(StringBuilder b) {
        unit(b);
        while (chance.nextInt(great ? 2 : 4) == 0) {
            if (chance.nextInt(great ? 4 : 2) > 0) {
                b.append(gap()).append('*').append(gap());
                unit(b);
            } else {
                b.append(gap()).append('/').append(gap());
                b.append(chance.nextInt(40) == 0 ? NUMBERS[5 * chance.nextInt(2)] : "" + (1 + chance.nextInt(12)));
            }
        }
    }

    private void unit(StringBuilder b) {
        int kind = chance.nextInt(8);
        if (kind == 0 || great && kind < 7) {
            b.append(NUMBERS[chance.nextInt(NUMBERS.length)]);
        } else {
            b.append(kind < 3 ? Integer.toString(chance.nextInt(12)) : UNITS[chance.nextInt(10)]);
        }
    }

    private String gap() {
        return chance.nextInt(5) > 0 ? "" : chance.nextBoolean() ? " " : "\n ";
    }

    private String must() {
        return chance.nextInt(5) > 0 ? " " : "\n";
    }

    private String harm(String text) {
        int at = chance.nextInt(text.length() + 1);
        if (at < text.length() && chance.nextInt(8) == 0) {
            return text.substring(0, at) + (char) (text.charAt(at) ^ 128) + text.substring(at + 1);
        }
        int cut = Math.min(text.length(), at + chance.nextInt(4));
        String scrap = chance.nextInt(3) == 0 ? "" : SCRAPS[chance.nextInt(SCRAPS.length)];
        String blank = chance.nextBoolean() ? " " : "";
        return text.substring(0, at) + blank + scrap + blank + text.substring(chance.nextBoolean() ? at : cut);
    }
}
