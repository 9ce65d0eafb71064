/** "Terms", ==== 2, the text of rules: what can stand where, the FAULTS and their places, what the values are worth. */
public final class RulesBoundsTest {
    private static final int NONE = Checks.NONE;
    private static final Checks t = new Checks("RulesBoundsTest");

    public static void main(String[] args) {
        emptyAtFirst();
        shortestLines();
        everySign();
        lettersTogether();
        keywordsToldHere();
        digitsTogether();
        blanks();
        whatCanNotStandThere();
        theEnd();
        wholeTape();
        firstByPlace();
        leastAtOnePlace();
        partByZero();
        seventeenthLine();
        ninthOpen();
        closedAgain();
        intsWrap();
        towardsZero();
        bindings();
        claimsTogether();
        deepest();
        valuesAtTheirEnds();
        otherValues();
        valuesOfEach();
        firstLineThatIsSo();
        textAfterText();
        faultLeavesRules();
        faultLeavesNothingOpen();
        t.finish();
    }

    private static void emptyAtFirst() {
        t.sentence("RULES are a TEXT (empty at first)");
        SevenToAShadow x = new SevenToAShadow();
        t.due("no lines", x.look(8), 0);
        x.pilgrim(0, 0, 1, 1, 0);
        x.pilgrim(1, 0, 1, 1, 0);
        x.quarrel(0, 1, true);
        x.hours(1);
        t.due("all stay", x.of(0, 0), 0);
        t.lines("", 0);
        t.lines(" ", 0);
        t.lines("\n", 0);
    }

    private static void shortestLines() {
        t.sentence("{(stay | seek | buy | flee) [when B] ;}");
        t.lines("stay;", 1);
        t.lines("seek;", 1);
        t.lines("buy;", 1);
        t.lines("flee;", 1);
        t.lines("stay when 0=0;", 1);
        t.lines("stay;seek when 0<0;", 2);
        t.lines("buy when not 0=0;flee when (0=0);", 2);
        t.lines("stay when 0=0 or 0=0 and 0=0;", 1);
        t.lines("stay when 0+0-0*0/1=0-0+0/1*0;", 1);
        t.lines("stay when burn<heat or shaded=water and tall>skin or hour+place-bears*pilgrim=0;", 1);
    }

    private static boolean isLetter(int c) {
        return c >= 'a' && c <= 'z' || c >= 'A' && c <= 'Z';
    }

    private static void everySign() {
        t.sentence("TOKENS: letters, digits, ; + - * / ( ) < = > . Blanks (32, 10) between");
        for (int c = 0; c < 256; c++) {
            String text = "stay" + (char) c + ";";
            if (c == ' ' || c == '\n') {
                t.lines(text, 1);
            } else if (c == ';') {
                t.fault(text, 1, 5);
            } else {
                t.fault(text, 1, isLetter(c) ? 0 : 4);
            }
        }
        for (int c = 0; c < 256; c++) {
            String text = "stay when 1" + (char) c + "1;";
            if (c == '<' || c == '=' || c == '>') {
                t.lines(text, 1);
            } else if (c >= '0' && c <= '9' || c == '+' || c == '-' || c == '*' || c == '/') {
                t.fault(text, 1, 13);
            } else {
                t.fault(text, 1, c == ' ' || c == '\n' ? 12 : 11);
            }
        }
    }

    private static void lettersTogether() {
        t.sentence("letters as many as stand together are KEYWORDS (those told here) or none");
        t.fault("stayseek;", 1, 0);
        t.fault("staywhen 1=1;", 1, 0);
        t.fault("sta;", 1, 0);
        t.fault("stays;", 1, 0);
        t.fault("s;", 1, 0);
        t.fault("STAY;", 1, 0);
        t.fault("staY;", 1, 0);
        t.fault("stayX;", 1, 0);
        t.fault("stay when burnZ=1;", 1, 10);
        t.fault("stay when Aburn=1;", 1, 10);
        t.fault("stay whenburn=1;", 1, 5);
        t.fault("stay when 1=1 orburn=1;", 1, 14);
        t.fault("stay when notburn=1;", 1, 10);
        t.fault("stay when burnor;", 1, 10);
        t.fault("stay when pilgrims=1;", 1, 10);
        t.fault("stay when pilgri=1;", 1, 10);
        t.lines("stay when1=1or 1=1and not(1=1);", 1);
        t.lines("stay when burn=1or burn=2and burn=3;", 1);
    }

    private static void keywordsToldHere() {
        t.sentence("KEYWORDS (those told here), each where it can stand");
        String[] starts = {"stay", "seek", "buy", "flee"};
        String[] others = {"when", "or", "and", "not"};
        String[] units = {"burn", "heat", "shaded", "water", "tall", "skin", "hour", "place", "bears", "pilgrim"};
        for (String word : starts) {
            t.lines(word + ";", 1);
            t.fault("stay when " + word + "=1;", 1, 10);
            t.fault("stay " + word + ";", 1, 5);
        }
        for (String word : others) {
            t.fault(word + ";", 1, 0);
            t.fault("stay when 1=" + word + ";", 1, 12);
        }
        for (String word : units) {
            t.fault(word + ";", 1, 0);
            t.lines("stay when " + word + "=1;", 1);
            t.lines("stay when 1=" + word + ";", 1);
            t.fault("stay when 1/" + word + "=1;", 1, 12);
            t.fault("stay when 1=1 " + word + "=1;", 1, 14);
        }
        t.fault("stay when price=1;", 1, 10);
        t.fault("stay when rest=1;", 1, 10);
        t.fault("walk;", 1, 0);
    }

    private static void digitsTogether() {
        t.sentence("digits as many as stand together NUMBERS of 1 to 4 digits or none");
        t.lines("stay when 0=9;", 1);
        t.lines("stay when 9999=0000;", 1);
        t.fault("stay when 10000=0;", 1, 10);
        t.fault("stay when 00000=0;", 1, 10);
        t.fault("stay when 0=00001;", 1, 12);
        t.fault("stay when 1234567890123456789=1;", 1, 10);
        t.fault("stay when 12 34=1;", 1, 13);
        t.fault("stay when 1 2=1;", 1, 12);
        t.fault("1;", 1, 0);
        so("0009 = 9", true);
        so("9999 = 9998 + 1", true);
        so("0000 = 0", true);
        so("1000 = 999 + 1", true);
        so("12 = 10 + 2", true);
        so("0010 = 9 + 1", true);
        so("010 = 8", false);
    }

    private static void blanks() {
        t.sentence("Blanks (32, 10) between");
        t.lines("stay;", 1);
        t.lines("  stay  ;  ", 1);
        t.lines("\n\nstay\n\n;\n\n", 1);
        t.lines("stay when ( 1 + 2 * 3 / 4 - 5 < 6 ) ;", 1);
        t.lines("stay\nwhen\n(\n1\n=\n1\n)\n;", 1);
        t.lines(" ".repeat(400), 0);
        t.lines(" ".repeat(395) + "stay;", 1);
        t.fault(" ".repeat(396) + "stay", 1, 400);
        t.fault("st ay;", 1, 0);
        t.fault("stay when 1\n2=1;", 1, 12);
        t.fault("stay\t;", 1, 4);
        t.fault("stay\r\n;", 1, 4);
        t.fault("stay" + (char) 160 + ";", 1, 4);
    }

    private static void whatCanNotStandThere() {
        t.sentence("1 what can't stand there");
        t.fault(";", 1, 0);
        t.fault("stay;;", 1, 5);
        t.fault("(stay);", 1, 0);
        t.fault("stay 1=1;", 1, 5);
        t.fault("stay when;", 1, 9);
        t.fault("stay when when 1=1;", 1, 10);
        t.fault("stay when ();", 1, 11);
        t.fault("stay when (1=1;", 1, 14);
        t.fault("stay when 1=1);", 1, 13);
        t.fault("stay when (1=1));", 1, 15);
        t.fault("stay when (1=1)(1=1);", 1, 15);
        t.fault("stay when (1=1)=1;", 1, 15);
        t.fault("stay when (1)=1;", 1, 12);
        t.fault("stay when 1=(1);", 1, 12);
        t.fault("stay when 1+(1)=2;", 1, 12);
        t.fault("stay when (1=1)+1=1;", 1, 15);
        t.fault("stay when 1=1=1;", 1, 13);
        t.fault("stay when 1<1>1;", 1, 13);
        t.fault("stay when 1==1;", 1, 12);
        t.fault("stay when 1<=1;", 1, 12);
        t.fault("stay when -1<1;", 1, 10);
        t.fault("stay when 1=-1;", 1, 12);
        t.fault("stay when 1+*1=1;", 1, 12);
        t.fault("stay when 1*=1;", 1, 12);
        t.fault("stay when 1=1+;", 1, 14);
        t.fault("stay when 1/burn=1;", 1, 12);
        t.fault("stay when 1/(1)=1;", 1, 12);
        t.fault("stay when 1/;", 1, 12);
        t.fault("stay when 1;", 1, 11);
        t.fault("stay when 1 and 1=1;", 1, 12);
        t.fault("stay when not;", 1, 13);
        t.fault("stay when not 1;", 1, 15);
        t.fault("stay when 1=1 not 1=1;", 1, 14);
        t.fault("stay when 1=1 and;", 1, 17);
        t.fault("stay when and 1=1;", 1, 10);
        t.fault("stay when or 1=1;", 1, 10);
        t.fault("stay when 1=1 or and 1=1;", 1, 17);
        t.fault("stay when 1=1 when 1=1;", 1, 14);
        t.fault("stay when 1=1 stay;", 1, 14);
        t.fault("stay when 1 not=1;", 1, 12);
        t.fault("stay;1", 1, 5);
        t.fault("stay; not", 1, 6);
    }

    private static void theEnd() {
        t.sentence("1 what can't stand there (the end: the text's length)");
        String[] whole = {"stay", "stay when", "stay when (", "stay when not", "stay when 1", "stay when 1+",
            "stay when 1*", "stay when 1/", "stay when 1/2", "stay when 1<", "stay when 1<burn", "stay when 1<1 and",
            "stay when 1<1 or", "stay when (1<1", "stay when (1<1)", "seek;stay"};
        for (String text : whole) {
            t.fault(text, 1, text.length());
            t.fault(text + " ", 1, text.length() + 1);
            t.fault(text + " \n ", 1, text.length() + 3);
        }
        t.lines("stay; \n ", 1);
    }

    private static void wholeTape() {
        t.sentence("a text of as many bytes as the TAPE has, 400");
        String almost = "stay when 1=1" + "+1".repeat(193);
        t.lines(almost + ";", 1);
        t.fault(almost + "+", 1, 400);
        t.fault(almost + " ", 1, 400);
        t.fault(almost + ")", 1, 399);
        t.fault("stay when 1=1" + "+1".repeat(191) + "/0;  ", 2, 396);
        t.lines("stay when 1" + "+9".repeat(191) + "<1+1;" + " ", 1);
        t.fault("y".repeat(400), 1, 0);
        t.fault("stay when 1=" + "1".repeat(388), 1, 12);
        t.fault("(".repeat(400), 1, 0);
        t.fault("stay when " + "(".repeat(390), 3, 18);
    }

    private static void firstByPlace() {
        t.sentence("FAULTS, the first by its place");
        t.fault("stay when 1/0=1 and 12345=1;", 2, 12);
        t.fault("stay when 12345=1 and 1/0=1;", 1, 10);
        t.fault("stay when 1/0=1 and 2/0=1;", 2, 12);
        t.fault("stay when (((((((( 1/0=1 and (1=1", 2, 21);
        t.fault("stay when ((((((((( 1/0=1", 3, 18);
        t.fault("stay;".repeat(15) + "stay when 1/0=1;stay;", 2, 87);
        t.fault("stay;".repeat(16) + "stay when 1/0=1;", 3, 80);
        t.fault("stay;".repeat(15) + "stay.;stay;", 1, 79);
        t.fault("stay;".repeat(16) + ".stay;", 1, 80);
    }

    private static void leastAtOnePlace() {
        t.sentence("at one place the least");
        t.fault("stay;".repeat(16) + "when;", 1, 80);
        t.fault("stay;".repeat(16) + "stayed;", 1, 80);
        t.fault("stay;".repeat(16) + "Stay;", 1, 80);
        t.fault("stay;".repeat(16) + "(", 1, 80);
        t.fault("stay when (((((((( 1 (", 1, 21);
        t.fault("stay when (((((((( 1=(", 1, 21);
        t.fault("stay when (((((((( 1=1 not", 1, 23);
        t.fault("stay when (((((((( 1+not", 1, 21);
        t.fault("stay when 1/00000=1;", 1, 12);
        String[] wrongs = {";", "+", "-", "*", "/", ")", "<", "=", ">", ".", "stay", "when", "or", "and", "burnt", "00000",
            ""};
        for (String wrong : wrongs) {
            t.fault("stay when (((((((( " + wrong, 1, 19);
            t.fault("stay when not not not not not not not not " + wrong, 1, 42);
        }
    }

    private static void partByZero() {
        t.sentence("2 (at the NUMBER) a part by 0");
        t.fault("stay when 1/0=1;", 2, 12);
        t.fault("stay when 1/ \n 0=1;", 2, 15);
        t.fault("stay when 1/00=1;", 2, 12);
        t.fault("stay when 1/0000=1;", 2, 12);
        t.fault("stay when 1=1/0;", 2, 14);
        t.fault("stay when burn*2/3/0=1;", 2, 19);
        t.fault("stay when 1/0", 2, 12);
        t.lines("stay when 1/1=1;", 1);
        t.lines("stay when 1/0001=1;", 1);
        t.lines("stay when 1/9999=0;", 1);
        t.lines("stay when 0/1=0;", 1);
        t.lines("stay when 1*0=0;", 1);
        t.lines("stay when 1/1*0=0;", 1);
    }

    private static void seventeenthLine() {
        t.sentence("3 (at its KEYWORD) the 17th line");
        t.lines("buy;".repeat(15), 15);
        t.lines("buy;".repeat(16), 16);
        t.lines("buy;".repeat(16) + " \n", 16);
        t.lines("stay when 1=1;".repeat(16), 16);
        t.fault("buy;".repeat(17), 3, 64);
        t.fault("buy;".repeat(16) + " \n buy;", 3, 67);
        t.fault("buy;".repeat(16) + "seek;", 3, 64);
        t.fault("buy;".repeat(16) + "flee", 3, 64);
        t.fault("buy;".repeat(16) + "stay when", 3, 64);
        t.fault("buy;".repeat(18), 3, 64);
        t.fault("stay when 1=1;".repeat(17), 3, 224);
        t.fault("buy;".repeat(16) + ";", 1, 64);
    }

    private static void ninthOpen() {
        t.sentence("(at it) the 9th ( or not that is open");
        t.lines("stay when " + "(".repeat(8) + "1=1" + ")".repeat(8) + ";", 1);
        t.fault("stay when " + "(".repeat(9) + "1=1" + ")".repeat(9) + ";", 3, 18);
        t.lines("stay when " + "not ".repeat(8) + "1=1;", 1);
        t.fault("stay when " + "not ".repeat(9) + "1=1;", 3, 42);
        t.lines("stay when " + "not(".repeat(4) + "1=1" + ")".repeat(4) + ";", 1);
        t.fault("stay when " + "not(".repeat(4) + "not 1=1" + ")".repeat(4) + ";", 3, 26);
        t.fault("stay when " + "not(".repeat(4) + "(1=1)" + ")".repeat(4) + ";", 3, 26);
        t.lines("stay when " + "(not ".repeat(4) + "1=1" + ")".repeat(4) + ";", 1);
        t.fault("stay when " + "(not ".repeat(4) + "(1=1)" + ")".repeat(4) + ";", 3, 30);
        t.fault("stay when " + "not ".repeat(8) + "(1=1);", 3, 42);
        t.fault("stay when " + "(".repeat(8) + "not 1=1;", 3, 18);
        t.fault("stay when " + "(".repeat(8) + "1=1 or not 1=1;", 3, 25);
        t.fault("stay when " + "(".repeat(8) + "1=1 and (1=1;", 3, 26);
        t.fault("stay;stay when " + "(".repeat(9), 3, 23);
        t.fault("stay when " + "( ".repeat(9), 3, 26);
    }

    private static void closedAgain() {
        t.sentence("that is open: not those that are closed again");
        String eight = "(".repeat(8) + "1=1" + ")".repeat(8);
        String nots = "not ".repeat(8) + "1=1";
        t.lines("stay when " + eight + " and " + eight + ";", 1);
        t.lines("stay when " + nots + " and " + nots + ";", 1);
        t.lines("stay when " + nots + " or " + nots + ";", 1);
        t.lines("stay when " + nots + " or " + eight + ";", 1);
        t.lines("stay when " + eight + " or " + nots + ";", 1);
        t.lines("stay when " + eight + ";stay when " + nots + ";stay when " + eight + ";", 3);
        t.lines("stay when (not not not not not not not 1=1) and " + nots + ";", 1);
        t.lines("stay when (" + "not ".repeat(7) + "1=1 and " + "not ".repeat(7) + "1=1);", 1);
        t.fault("stay when (" + "not ".repeat(7) + "1=1 and " + "not ".repeat(8) + "1=1);", 3, 75);
        t.lines("stay when not (1=1) and not (1=1) and not (1=1) and not (1=1) and not (1=1) and not (1=1);", 1);
        t.lines("stay when not(not(not(1=1)))and not(not(not(not(1=1))));", 1);
        t.fault("stay when " + eight + " and (" + eight + ");", 3, 42);
        t.fault("stay when " + eight + ") and 1=1;", 1, 29);
    }

    /** What a B is worth is seen by whether PILGRIM 0 flees from 1, who stands beside him. */
    private static boolean flees(SevenToAShadow x, String b) {
        t.due("the line of " + b, Checks.rules(x, "flee when " + b + ";"), 1);
        int place = x.of(0, 0);
        x.hours(1);
        return x.of(0, 0) != place;
    }

    private static SevenToAShadow two(int place, int tall, int skin, int water) {
        SevenToAShadow x = new SevenToAShadow();
        x.pilgrim(place, tall, 1, skin, water);
        x.pilgrim(place == 24 ? 23 : place + 1, 0, 1, 0, 0);
        x.quarrel(0, 1, true);
        return x;
    }

    private static void so(String b, boolean want) {
        t.due(b, flees(two(12, 0, 0, 0), b), want);
    }

    private static void intsWrap() {
        t.sentence("Ints, which wrap");
        // 9999 * 9999 * 21 + 9999 * 4790 + 8416 is 2147483647.
        so("9999*9999*21+9999*4790+8416 > 0", true);
        so("9999*9999*21+9999*4790+8416+1 > 0", false);
        so("9999*9999*21+9999*4790+8416+1 < 0", true);
        so("0-9999*9999*21-9999*4790-8416-1 < 0", true);
        so("0-9999*9999*21-9999*4790-8416-2 < 0", false);
        so("9999*9999*21+9999*4790+8416+1 = 0-9999*9999*21-9999*4790-8416-1", true);
        so("8192*8192*32 < 0", true);
        so("8192*8192*32*2 = 0", true);
        so("8192*8192*31 > 0", true);
        so("0 < 8192*8192*32 - 1", true);
        so("8192*8192*32 - 1 = 9999*9999*21+9999*4790+8416", true);
        // The difference of these two wraps; which is less does not.
        so("8192*8192*32 < 1", true);
        so("1 > 8192*8192*32", true);
    }

    private static void towardsZero() {
        t.sentence("/ goes towards 0");
        so("7/2 = 3", true);
        so("1/2 = 0", true);
        so("9999/9999 = 1", true);
        so("9998/9999 = 0", true);
        // 9999 * 9999 * 9999 wraps to -1027349969.
        so("9999*9999*9999/1000 = 0 - 1027*1000 - 349", true);
        so("9999*9999*9999/1 < 0", true);
        so("8192*8192*32/9999/9999/9999 = 0", true);
        // 7 - 8 is no part of a T, so that only a T that wrapped is below 0: -2147483648 / 3 is -715827882.6.
        so("8192*8192*32/3 = 0 - 715*1000*1000 - 827*1000 - 882", true);
    }

    private static void bindings() {
        t.sentence("E = T {(+ | -) T}.  T = U {* U | / NUMBER}");
        so("7 - 2 - 3 = 2", true);
        so("7 - 2 + 3 = 8", true);
        so("7 - 2 * 3 = 1", true);
        so("2 + 3 * 4 = 14", true);
        so("2 * 3 + 4 = 10", true);
        so("7 / 2 * 2 = 6", true);
        so("2 * 7 / 2 = 7", true);
        so("100 / 7 / 2 = 7", true);
        so("12 - 8 / 2 = 8", true);
        so("3 * 3 / 2 * 3 / 2 = 6", true);
        t.sentence("B = A {or A}.  A = C {and C}.  not C | ( B )");
        so("1=1 or 1=1 and 1=2", true);
        so("(1=1 or 1=1) and 1=2", false);
        so("1=2 and 1=1 or 1=1", true);
        so("1=2 and (1=1 or 1=1)", false);
        so("not 1=1 or 1=1", true);
        so("not (1=1 or 1=1)", false);
        so("not 1=2 and 1=2", false);
        so("not (1=2 and 1=2)", true);
        so("not not 1=1", true);
        so("not not not 1=1", false);
        so("1=2 or 1=2 or 1=1", true);
        so("1=1 and 1=1 and 1=2", false);
        t.sentence("C = E (< | = | >) E");
        so("1 < 1", false);
        so("1 < 2", true);
        so("2 < 1", false);
        so("1 = 1", true);
        so("1 = 2", false);
        so("1 > 1", false);
        so("2 > 1", true);
        so("1 > 2", false);
    }

    private static void claimsTogether() {
        t.sentence("A {or A}, C {and C}, not C: of whatever is so and is not so");
        String[] claims = {"1<2", "2>1", "1=1", "2<1", "1>2", "1=2", "1<1", "1>1"};
        for (int i = 0; i < claims.length; i++) {
            so(claims[i], i < 3);
            so("not " + claims[i], i >= 3);
            so("not not " + claims[i], i < 3);
            so("not(" + claims[i] + ")", i >= 3);
            for (int k = 0; k < claims.length; k++) {
                so(claims[i] + " and " + claims[k], i < 3 && k < 3);
                so(claims[i] + " or " + claims[k], i < 3 || k < 3);
                so("not " + claims[i] + " and " + claims[k], i >= 3 && k < 3);
                so(claims[i] + " or not " + claims[k], i < 3 || k >= 3);
            }
        }
    }

    /** As much as can wait at once: in each of eight ( an or and an and, inside a sum of products. */
    private static void deepest() {
        t.sentence("(at it) the 9th ( or not that is open: what waits at eight is not lost");
        String in = "1=2 or 1=1 and (".repeat(8) + "1=2 or 1=1 and 1+2*3=1+2*3" + ")".repeat(8);
        so(in, true);
        String not = "1=2 or 1=1 and (".repeat(8) + "1=2 or 1=1 and 1+2*3=1+2*4" + ")".repeat(8);
        so(not, false);
        so("not ".repeat(8) + "1=1", true);
        so("not ".repeat(7) + "1=1", false);
        so("not(".repeat(4) + "1=2" + ")".repeat(4), false);
        so("not(".repeat(3) + "1=2" + ")".repeat(3), true);
        so("1=1 and not(1=2 or 1=1 and not(1=1 and not(1=2 or 1=1 and not(1=2 or 1=2))))", false);
        so("1=1 and not(1=2 or 1=1 and not(1=1 and not(1=2 or 1=1 and not(1=2 or 1=1))))", true);
    }

    private static void valuesAtTheirEnds() {
        t.sentence("water; tall; skin; hour; place; pilgrim: from their least to their most");
        t.due("water 0", flees(two(12, 0, 0, 0), "water = 0"), true);
        t.due("water 9999", flees(two(12, 0, 0, 9999), "water = 9999"), true);
        t.due("tall 0", flees(two(12, 0, 9, 9), "tall = 0"), true);
        t.due("tall 9", flees(two(12, 9, 0, 0), "tall = 9"), true);
        t.due("skin 0", flees(two(12, 9, 0, 9), "skin = 0"), true);
        t.due("skin 9", flees(two(12, 0, 9, 0), "skin = 9"), true);
        t.due("place 0", flees(two(0, 9, 9, 9), "place = 0"), true);
        t.due("place 24", flees(two(24, 9, 9, 9), "place = 24"), true);
        for (int h = 0; h < 12; h++) {
            SevenToAShadow x = two(12, 9, 9, 9);
            if (h > 0) {
                x.hours(h);
            }
            t.due("hour " + h, flees(x, "hour = " + h), true);
        }
        for (int p = 0; p < 10; p++) {
            onlyOneFlees(p);
        }
    }

    /** Five pairs that QUARREL, side by side; all could flee, one may. */
    private static void onlyOneFlees(int p) {
        int[] places = {0, 1, 2, 3, 5, 6, 7, 8, 10, 11};
        SevenToAShadow x = new SevenToAShadow();
        for (int place : places) {
            x.pilgrim(place, 0, 1, 0, 0);
        }
        for (int q = 0; q < 10; q += 2) {
            x.quarrel(q, q + 1, true);
        }
        Checks.rules(x, "flee when pilgrim = " + p + ";");
        x.hours(1);
        for (int q = 0; q < 10; q++) {
            t.due(q + " stays if pilgrim " + p + " flees", x.of(q, 0) == places[q], q != p);
        }
    }

    private static void otherValues() {
        t.sentence("burn; heat (of this HOUR); shaded (1, 0; as all stand); bears (1, 0: a PARASOL)");
        SevenToAShadow x = two(12, 0, 7, 0);
        t.due("burn 0", flees(x, "burn = 0"), true);
        x.give(0, 0, 12);
        t.due("burn of the HOUR before", flees(x, "burn = 7"), true);
        SevenToAShadow heat = two(12, 0, 0, 0);
        heat.hour(0, 2, 9);
        heat.hour(1, 2, 0);
        heat.hour(2, 2, 9);
        heat.hour(2, 4, 10);
        t.due("heat 9", flees(heat, "heat = 9"), true);
        heat.give(0, 0, 12);
        t.due("heat 0", flees(heat, "heat = 0"), true);
        heat.give(0, 0, 12);
        t.due("heat under CLOUDS", flees(heat, "heat = 0"), true);
        SevenToAShadow shaded = two(12, 9, 0, 0);
        t.due("not shaded", flees(shaded, "shaded = 0"), true);
        shaded.give(0, 0, 12);
        shaded.give(0, 2, 1);
        t.due("shaded by a HAT", flees(shaded, "shaded = 1"), true);
        shaded.give(0, 0, 12);
        t.due("who has a HAT does not bear", flees(shaded, "bears = 0"), true);
        shaded.give(0, 0, 12);
        shaded.give(0, 2, 0);
        shaded.give(0, 1, 1);
        t.due("bears", flees(shaded, "bears = 1"), true);
        shaded.give(0, 0, 12);
        t.due("shaded by his own PARASOL", flees(shaded, "shaded = 1"), true);
        SevenToAShadow then = new SevenToAShadow();
        then.pilgrim(13, 5, 1, 0, 0);
        then.pilgrim(12, 0, 1, 0, 0);
        then.quarrel(0, 1, true);
        Checks.rules(then, "flee when pilgrim = 0; buy when shaded = 1; stay;");
        then.hours(1);
        t.due("the TALL one went", then.of(0, 0) != 13, true);
        Checks.rules(then, "flee when shaded = 0;");
        then.give(0, 0, 13);
        then.hours(1);
        t.due("as all stand: nobody shades 1 when 0 is gone", then.of(0, 0) != 13, true);
        t.due("and is FAR 2, so that 1 stays", then.of(1, 0), 12);
    }

    private static void valuesOfEach() {
        t.sentence("burn; water; tall; skin; hour; place; pilgrim: of the one who goes, in the HOUR that is");
        String[] names = {"burn", "water", "tall", "skin", "hour", "place", "pilgrim"};
        int[][] values = {{6, 3, 1, 2, 2, 0, 0}, {21, 8, 6, 7, 2, 4, 1}, {12, 50, 3, 4, 2, 20, 2}};
        for (int p = 0; p < 3; p++) {
            for (int i = 0; i < names.length; i++) {
                for (int other = 0; other < 3; other++) {
                    SevenToAShadow x = threeWithFoes();
                    Checks.rules(x, "flee when " + names[i] + " = " + values[other][i] + ";");
                    x.hours(1);
                    boolean goes = values[other][i] == values[p][i];
                    t.due(names[i] + " = " + values[other][i] + " of " + p, x.of(p, 0) != values[p][5], goes);
                }
            }
        }
    }

    /** Three in corners, each with one beside him with whom he QUARRELS; NOW is 2, nobody was SHADED. */
    private static SevenToAShadow threeWithFoes() {
        SevenToAShadow x = new SevenToAShadow();
        x.pilgrim(0, 1, 1, 2, 3);
        x.pilgrim(4, 6, 1, 7, 8);
        x.pilgrim(20, 3, 1, 4, 50);
        int[] foes = {6, 8, 16};
        for (int p = 0; p < 3; p++) {
            x.quarrel(p, x.pilgrim(foes[p], 9, 1, 9, 9999), true);
        }
        x.hour(0, 1, 4);
        x.hour(1, 1, 4);
        x.hours(2);
        return x;
    }

    private static void firstLineThatIsSo() {
        t.sentence("by the first line whose B is so, or that has none (none: stay)");
        String[] texts = {"stay;flee;", "flee;stay;", "stay when 1=2;flee;", "stay when 1=1;flee;", "flee when 1=2;",
            "flee when 1=2;stay;flee;", "buy when 1=2;seek when 1=2;flee when 1=1;stay;", ""};
        boolean[] goes = {false, true, true, false, false, false, true, false};
        for (int i = 0; i < texts.length; i++) {
            SevenToAShadow x = two(12, 0, 0, 0);
            Checks.rules(x, texts[i]);
            x.hours(1);
            t.due("flees by " + texts[i], x.of(0, 0) != 12, goes[i]);
        }
        SevenToAShadow x = two(12, 0, 0, 0);
        t.due("sixteen lines", Checks.rules(x, "stay when 1=2;".repeat(15) + "flee when 1=1;"), 16);
        x.hours(1);
        t.due("the sixteenth", x.of(0, 0) != 12, true);
        staysWithoutOne("");
        staysWithoutOne("stay;");
        staysWithoutOne("flee when 1=2;");
        staysWithoutOne("seek when 1=2; buy when 2<1; flee when not 1=1;");
    }

    /** PILGRIM 0 could do anything: he QUARRELS with 1 beside him, 3 shades 11, and 2, who did not burn, at 10. */
    private static void staysWithoutOne(String text) {
        SevenToAShadow x = new SevenToAShadow();
        x.pilgrim(24, 0, 1, 1, 9);
        x.pilgrim(23, 0, 1, 1, 9);
        x.pilgrim(10, 0, 1, 1, 9);
        x.pilgrim(12, 0, 1, 1, 9);
        x.give(3, 1, 1);
        x.quarrel(0, 1, true);
        x.hours(1);
        Checks.rules(x, text);
        x.hours(1);
        t.due("he stays by " + text, x.of(0, 0), 24);
        t.due("he buys nothing by " + text, x.of(0, 9), 0);
    }

    private static void textAfterText() {
        t.sentence("The TAPE is RULES: nothing is left of those before");
        String[] texts = {"", "flee;", "stay when 1=2;", "stay when 1=2;flee;", "stay when 1=2 and 1=2 or 1=2;",
            "flee when not 1=1;", "stay;stay;flee when not 1=2;", "flee when (((1<2)));", "stay when 1=2;stay when not 1=1;",
            "flee when 1=2", "flee when not (1=1 and"};
        boolean[] goes = {false, true, false, true, false, false, false, true, false};
        for (String first : texts) {
            for (String second : texts) {
                for (int i = 0; i < goes.length; i++) {
                    SevenToAShadow x = two(12, 0, 0, 0);
                    Checks.rules(x, first);
                    Checks.rules(x, second);
                    Checks.rules(x, texts[i]);
                    x.hours(1);
                    t.due("flees by " + texts[i] + " after " + first + " and " + second, x.of(0, 0) != 12, goes[i]);
                }
            }
        }
    }

    private static void faultLeavesRules() {
        t.sentence("NONE: a FAULT (it stays as it was)");
        String[] wrongs = {"stay", "stay when 1/0=1;", "buy;".repeat(17), "stay when ((((((((( 1=1", "stay;seek;stay;."};
        for (String wrong : wrongs) {
            SevenToAShadow x = two(12, 0, 0, 0);
            Checks.rules(x, "stay when 1=2; flee when 2>1;");
            t.due("text() of " + wrong, Checks.rules(x, wrong), NONE);
            t.due("as many lines as before", x.look(8), 2);
            t.due("the TAPE is empty", x.end(1), false);
            x.hours(1);
            t.due("they are gone by", x.of(0, 0) != 12, true);
        }
    }

    private static void faultLeavesNothingOpen() {
        t.sentence("FAULTS: what was open at one is not open in the next text");
        String[] wrongs = {"stay when (((((((( 1=1", "stay when not .", "stay when 1+2*3<", "stay when 1=2 and 1=1 or",
            "stay when 1=1 or 1=1 and (1=1 and 1+", "stay;stay;stay when (1=1) and", "buy;".repeat(17)};
        for (String wrong : wrongs) {
            SevenToAShadow x = two(12, 0, 0, 0);
            t.due("text() of " + wrong, Checks.rules(x, wrong), NONE);
            t.due("a line after " + wrong, flees(x, "1<2"), true);
            t.due("no ) too many", Checks.rules(x, "stay when 1=1);"), NONE);
            t.due("its place", x.fault(1), 13);
            t.due("eight open", Checks.rules(x, "flee when " + "(".repeat(8) + "1=1" + ")".repeat(8) + ";"), 1);
            t.due("eight not", Checks.rules(x, "flee when " + "not ".repeat(8) + "1=1;"), 1);
            t.due("sixteen lines", Checks.rules(x, "stay when 1=2;".repeat(15) + "flee when 1<2;"), 16);
            x.give(0, 0, 12);
            x.hours(1);
            t.due("they are gone by", x.of(0, 0) != 12, true);
        }
        SevenToAShadow x = two(12, 0, 0, 0);
        for (int time = 0; time < 30; time++) {
            t.due("time and again", Checks.rules(x, "stay when " + "1=1 or 1=1 and (".repeat(8) + "1+1*1<."), NONE);
        }
        t.due("a line after that", flees(x, "1=2 or 1=1 and (".repeat(8) + "1+1*2=3" + ")".repeat(8)), true);
    }
}
