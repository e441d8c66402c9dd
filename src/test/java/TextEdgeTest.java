import java.nio.charset.StandardCharsets;
import java.util.ArrayList;
import java.util.Arrays;
import java.util.List;

/** Term 1 with promises 2 to 5: the last that can be told and the first that can't, on both sides. */
public final class TextEdgeTest {
    private static final int NONE = LullabyHouse.NONE;
    private static final String FLOORS = "floor 1 1;".repeat(6);
    private static final String BARS = "bar 1 1 0 0;".repeat(8);
    private static final String SINGERS = "singer 1 1 1;".repeat(5);
    private static final String WALLS = "wall 0;wall 1;wall 2;wall 3;wall 4;wall 5;wall 6;wall 7;";
    private static final String[][] LINES = {
        {"floor 1 1;", "bar 1 1 0 0;", "singer 1 1 1;", "step 0;", "wall 0;"},
        {"sing 0;", "cold 0;", "well 0;", "skip;", "night;"},
        {"dreamt 0;", "calm 0;"}};

    private interface Asked {
        int of(LullabyHouse x);
    }

    private TextEdgeTest() {
    }

    public static void main(String[] args) {
        feedUpTo600();
        refusedFeed();
        highestByteFirst();
        endOfTape();
        longestTexts();
        numbersOfHouses();
        numbersOfNightsAndMornings();
        fullHouse();
        fullNights();
        fullMornings();
        linesTellTheirOwn();
        nothingOfTheTextAhead();
        oneTooMany();
        noLimitOfStepsAndWalls();
        anyByteAlone();
        anyByteBetween();
        anyByteInANumber();
        anyByteBehind();
        asLongAsTheyGo();
        linesWithOneTokenLessOrMore();
        wordsSpoilt();
        wordsOfOtherSorts();
        everyCut();
        faultOneIsFirst();
        firstByPlace();
        notThere();
        Check.end();
    }

    private static void due(String call, long got, long want) {
        Check.due(call, got, want);
    }

    /** A text on a new object: what it answers, its fault, and what is there then. */
    private static void judge(int sort, String text, int fault, int place) {
        judge(sort, text.getBytes(StandardCharsets.ISO_8859_1), fault, place);
    }

    private static void judge(int sort, byte[] text, int fault, int place) {
        LullabyHouse x = new LullabyHouse();
        Teller.tape(x, text);
        String name = "'" + new String(text, StandardCharsets.ISO_8859_1) + "' of sort " + sort + ": ";
        due(name + "text()", x.text(sort, NONE), fault == 0 ? 0 : NONE);
        due(name + "fault(0)", x.fault(0), fault);
        due(name + "fault(1)", x.fault(1), fault == 0 ? NONE : place);
        due(name + "count()", x.count(sort), fault == 0 ? 1 : 0);
        due(name + "the tape is empty then", x.end(1), NONE);
    }

    private static void sound(int sort, String text) {
        judge(sort, text, 0, NONE);
    }

    /** A tape of so many blanks. */
    private static LullabyHouse blanks(int many) {
        LullabyHouse x = new LullabyHouse();
        for (int k = 0; k < 30; k++) {
            x.feed(0x20202020, 0x20202020, 0x20202020, 0x20202020, 0x20202020);
        }
        due("3 end(" + many + ")", x.end(many), many);
        return x;
    }

    // Promise 2: "NONE, and nothing comes, if there would be more than 600."
    private static void feedUpTo600() {
        for (int many = 0; many <= 600; many++) {
            LullabyHouse x = blanks(many);
            int then = many <= 580 ? many + 20 : many;
            due("2 feed() behind " + many, x.feed(0, 0, 0, 0, 0), many <= 580 ? many + 20 : NONE);
            due("2 no more behind " + many, x.end(then + 1), NONE);
            due("2 no less behind " + many, x.end(then), then);
        }
    }

    private static void refusedFeed() {
        LullabyHouse x = new LullabyHouse();
        Teller.tape(x, " ".repeat(571) + "floor 7 8;");
        due("2 at 581 nothing comes", x.feed(-1, -1, -1, -1, -1), NONE);
        due("2 nor a second time", x.feed(-1, -1, -1, -1, -1), NONE);
        due("2 what was there is there", x.text(0, NONE), 0);
        due("2 RENT", x.house(0, 10), 7);
        due("2 PEOPLE", x.house(0, 20), 8);
        due("2 an empty tape takes twenty again", x.feed(0, 0, 0, 0, 0), 20);
    }

    // Promise 2: "of each number the highest first"
    private static void highestByteFirst() {
        for (int wrong : new int[] {0, 127, 128, 255}) {
            for (int place = 0; place < 20; place++) {
                int[] n = new int[5];
                Arrays.fill(n, 0x20202020);
                int shift = 24 - 8 * (place % 4);
                n[place / 4] = n[place / 4] & ~(255 << shift) | wrong << shift;
                LullabyHouse x = new LullabyHouse();
                x.feed(n[0], n[1], n[2], n[3], n[4]);
                due("2 a wrong byte at " + place, x.text(0, NONE), NONE);
                due("2 its place", x.fault(1), place);
            }
        }
    }

    // Promise 3: "NONE if it has not so many, or n is below 0."
    private static void endOfTape() {
        for (int many : new int[] {0, 1, 19, 20, 21, 599, 600}) {
            LullabyHouse x = blanks(many);
            int[] refused = {-1, -2, many + 1, 601, Integer.MIN_VALUE, Integer.MAX_VALUE};
            for (int n : refused) {
                due("3 end(" + n + ") of " + many, x.end(n), NONE);
            }
            due("3 all of it is there still", x.end(many), many);
            due("3 all of it is there still", x.end(many + 1), NONE);
            due("3 end(0) of " + many, x.end(0), 0);
            due("3 nothing is there then", x.end(1), NONE);
            due("3 end(0) of nothing", x.end(0), 0);
        }
        LullabyHouse x = new LullabyHouse();
        Teller.tape(x, "floor 1 1;floor 2 2;");
        due("3 the first 10 bytes alone", x.end(10), 10);
        due("3 are a text", x.text(0, NONE), 0);
        due("3 of one FLOOR", x.house(0, 0), 1);
    }

    // Term 1: "THE TAPE has at most 600 bytes."; the end's place
    private static void longestTexts() {
        sound(0, "");
        sound(1, "");
        sound(2, "");
        sound(0, " ".repeat(600));
        sound(0, " ".repeat(590) + "floor 1 1;");
        sound(0, "floor 1 1;" + "\n".repeat(590));
        judge(0, " ".repeat(590) + "floor 1 1:", 1, 599);
        judge(0, " ".repeat(591) + "floor 1 1", 1, 600);
        judge(0, " ".repeat(589) + "floor 1 1  ", 1, 600);
        judge(0, " ".repeat(593) + "wall 0;", 4, 600);
        judge(0, "wall 0;" + " ".repeat(593), 4, 600);
        judge(0, " ".repeat(593) + "wall 8;", 2, 598);
        judge(1, " ".repeat(395) + "skip;".repeat(41), 3, 595);
    }

    /** Each number from 0 to 99, with one digit and with two: the last and the first on both sides are among them. */
    private static void bounds(int sort, String ahead, int least, int most, String behind, Asked asked) {
        for (int n = 0; n < 100; n++) {
            boolean can = n >= least && n <= most;
            for (int zero = 0; zero < (n < 10 ? 2 : 1); zero++) {
                String text = ahead + "0".repeat(zero) + n + behind;
                judge(sort, text, can ? 0 : 2, ahead.length());
                LullabyHouse x = new LullabyHouse();
                Teller.tell(x, sort, NONE, text);
                due("1 as told by '" + text + "'", asked.of(x), can ? n : NONE);
            }
        }
        judge(sort, ahead + "00" + least + behind, 1, ahead.length());
        judge(sort, ahead + "100" + behind, 1, ahead.length());
        judge(sort, ahead + "-1" + behind, 1, ahead.length());
        judge(sort, ahead + "+" + most + behind, 1, ahead.length());
    }

    private static void numbersOfHouses() {
        bounds(0, "floor ", 0, 20, " 1;", x -> x.house(0, 10));
        bounds(0, "floor 0 ", 1, 9, ";", x -> x.house(0, 20));
        bounds(0, FLOORS + "bar ", 0, 9, " 1 0 0;", x -> x.house(0, 30));
        bounds(0, FLOORS + "bar 0 ", 1, 4, " 0 0;", x -> x.house(0, 40));
        bounds(0, FLOORS + "bar 0 1 ", 0, 5, " 0;", x -> x.house(0, 50));
        bounds(0, FLOORS + "bar 0 1 0 ", 0, 10, ";", x -> x.house(0, 60));
        bounds(0, "singer ", 1, 9, " 9 1;", x -> x.house(0, 70));
        for (int low = 1; low <= 9; low++) {
            bounds(0, "singer " + low + " ", low, 9, " 1;", x -> x.house(0, 80));
        }
        bounds(0, "singer 1 1 ", 1, 20, ";", x -> x.house(0, 90));
        bounds(0, "step ", 0, 9, ";", x -> x.house(0, 3));
        bounds(0, FLOORS + BARS + "wall ", 0, 7, ";",
            x -> x.house(0, 4) == NONE ? NONE : Integer.numberOfTrailingZeros(x.house(0, 4)));
        due("1 STEP, 9 at first", Teller.with("").house(0, 3), 9);
        due("1 a later STEP strikes", Teller.with("step 9;step 0;").house(0, 3), 0);
    }

    private static void numbersOfNightsAndMornings() {
        bounds(1, "sing ", 0, 4, ";", x -> x.deed(0, 0, 1) == -2 ? NONE : x.deed(0, 0, 1));
        bounds(1, "cold ", 0, 4, ";", x -> x.deed(0, 0, 1) == -2 ? NONE : x.deed(0, 0, 1));
        bounds(1, "well ", 0, 4, ";", x -> x.deed(0, 0, 1) == -2 ? NONE : x.deed(0, 0, 1));
        bounds(2, "dreamt ", 0, 5, ";", x -> x.fact(0, 0, 1) == -2 ? NONE : x.fact(0, 0, 1));
        bounds(2, "calm ", 0, 5, ";", x -> x.fact(0, 0, 1) == -2 ? NONE : x.fact(0, 0, 1));
    }

    // Term 1: FLOORS "at most 6", BARS "at most 8", SINGERS "at most 5", each "from 0 on"
    private static void fullHouse() {
        StringBuilder text = new StringBuilder();
        for (int f = 0; f < 6; f++) {
            text.append("floor " + (15 + f) + " " + (4 + f) + ";");
        }
        for (int b = 0; b < 8; b++) {
            text.append("bar " + (9 - b) + " " + (1 + b % 4) + " " + b % 6 + " " + (3 + b) + ";");
        }
        for (int s = 0; s < 5; s++) {
            text.append("singer " + (1 + s) + " " + (5 + s) + " " + (16 + s) + ";");
        }
        LullabyHouse x = Teller.with(text + WALLS);
        due("1 6 FLOORS", x.house(0, 0), 6);
        due("1 8 BARS", x.house(0, 1), 8);
        due("1 5 SINGERS", x.house(0, 2), 5);
        due("1 8 WALLED ones", x.house(0, 4), 255);
        for (int k = 0; k < 10; k++) {
            due("6 RENT of " + k, x.house(0, 10 + k), k < 6 ? 15 + k : NONE);
            due("6 PEOPLE of " + k, x.house(0, 20 + k), k < 6 ? 4 + k : NONE);
            due("6 NOTE of " + k, x.house(0, 30 + k), k < 8 ? 9 - k : NONE);
            due("6 LENGTH of " + k, x.house(0, 40 + k), k < 8 ? 1 + k % 4 : NONE);
            due("6 FLOOR of " + k, x.house(0, 50 + k), k < 8 ? k % 6 : NONE);
            due("6 RISK of " + k, x.house(0, 60 + k), k < 8 ? 3 + k : NONE);
            due("6 LOW of " + k, x.house(0, 70 + k), k < 5 ? 1 + k : NONE);
            due("6 HIGH of " + k, x.house(0, 80 + k), k < 5 ? 5 + k : NONE);
            due("6 BREATH of " + k, x.house(0, 90 + k), k < 5 ? 16 + k : NONE);
        }
    }

    // Term 1: DEEDS "at most 40, from 0 on"
    private static void fullNights() {
        String[] deeds = {"sing 4;", "cold 3;", "well 2;", "skip;", "night;"};
        StringBuilder text = new StringBuilder();
        for (int k = 0; k < 40; k++) {
            text.append(deeds[k % 5]);
        }
        LullabyHouse x = new LullabyHouse();
        due("1 40 DEEDS", Teller.tell(x, 1, NONE, text.toString()), 0);
        due("7 how many", x.deed(0, NONE, 0), 40);
        for (int k = 0; k < 40; k++) {
            due("7 deed(0, " + k + ", 0)", x.deed(0, k, 0), k % 5);
            due("7 deed(0, " + k + ", 1)", x.deed(0, k, 1), k % 5 < 3 ? 4 - k % 5 : NONE);
        }
        due("7 deed(0, 40, 0)", x.deed(0, 40, 0), -2);
        due("7 deed(0, 40, 1)", x.deed(0, 40, 1), -2);
    }

    // Term 1: FACTS "at most 8, from 0 on"
    private static void fullMornings() {
        LullabyHouse x = new LullabyHouse();
        due("1 8 FACTS", Teller.tell(x, 2, NONE, "dreamt 0;calm 1;dreamt 2;calm 3;dreamt 4;calm 5;dreamt 0;calm 1;"), 0);
        due("17 how many", x.fact(0, NONE, 0), 8);
        for (int k = 0; k < 8; k++) {
            due("17 fact(0, " + k + ", 0)", x.fact(0, k, 0), k % 2);
            due("17 fact(0, " + k + ", 1)", x.fact(0, k, 1), k % 6);
        }
        due("17 fact(0, 8, 0)", x.fact(0, 8, 0), -2);
        due("17 fact(0, 8, 1)", x.fact(0, 8, 1), -2);
    }

    /** How many there are of each, STEP and WALLED ones, behind a text on the same object. */
    private static void counts(LullabyHouse x, String text, int... want) {
        due("4 '" + text + "'", Teller.tell(x, 0, x.count(0) == 0 ? NONE : 0, text), 0);
        for (int what = 0; what < want.length; what++) {
            due("6 '" + text + "', what " + what, x.house(0, what), want[what]);
        }
    }

    private static void linesTellTheirOwn() {
        String bar = "floor 1 1;bar 5 2 0 7;";
        LullabyHouse x = new LullabyHouse();
        counts(x, "", 0, 0, 0, 9, 0);
        counts(x, "step 3;floor 2 2;", 1, 0, 0, 3, 0);
        counts(x, "step 3;" + bar, 1, 1, 0, 3, 0);
        counts(x, "step 3;singer 1 2 4;", 0, 0, 1, 3, 0);
        counts(x, bar + "step 3;wall 0;", 1, 1, 0, 3, 1);
        counts(x, bar + "wall 0;step 3;", 1, 1, 0, 3, 1);
    }

    private static void nothingOfTheTextAhead() {
        LullabyHouse x = new LullabyHouse();
        counts(x, FLOORS + BARS + SINGERS + WALLS + "step 0;", 6, 8, 5, 0, 255);
        counts(x, "floor 2 2;", 1, 0, 0, 9, 0);
        due("6 no more of the FLOORS", x.house(0, 11), NONE);
        counts(x, "", 0, 0, 0, 9, 0);
        due("4 all DEEDS", Teller.tell(x, 1, NONE, "skip;".repeat(40)), 0);
        due("4 one in their place", Teller.tell(x, 1, 0, "night;"), 0);
        due("7 one DEED", x.deed(0, NONE, 0), 1);
        due("4 all FACTS", Teller.tell(x, 2, NONE, "calm 1;".repeat(8)), 0);
        due("4 none in their place", Teller.tell(x, 2, 0, ""), 0);
        due("17 no FACTS", x.fact(0, NONE, 0), 0);
        Teller.tell(x, 0, 0, "step 3;wall 0;");
        counts(x, "floor 1 1;", 1, 0, 0, 9, 0);
    }

    // Term 1: "3 a 7th FLOOR, a 9th BAR, a 6th SINGER, a 41st DEED, a 9th FACT, at its first token."
    private static void oneTooMany() {
        sound(0, FLOORS);
        sound(0, "floor 1 1;" + BARS);
        sound(0, SINGERS);
        sound(0, FLOORS + BARS + SINGERS);
        sound(1, "skip;".repeat(40));
        sound(2, "calm 1;".repeat(8));
        judge(0, FLOORS + "\n floor 1 1;", 3, 62);
        judge(0, "floor 1 1;" + BARS + "  bar 1 1 0 0;", 3, 108);
        judge(0, SINGERS + " singer 1 1 1;", 3, 66);
        judge(0, SINGERS + BARS + FLOORS + "floor 1 1;", 3, 221);
        judge(0, FLOORS + BARS + SINGERS + "floor 1 1;bar 1 1 0 0;singer 1 1 1;", 3, 221);
        judge(0, FLOORS + BARS + SINGERS + "step 1;wall 7;bar 1 1 0 0;floor 1 1;", 3, 235);
        for (String deed : LINES[1]) {
            judge(1, "skip;".repeat(40) + " " + deed, 3, 201);
            sound(1, "skip;".repeat(39) + " " + deed);
        }
        for (String fact : LINES[2]) {
            judge(2, "calm 1;".repeat(8) + " " + fact, 3, 57);
            sound(2, "calm 1;".repeat(7) + " " + fact);
        }
    }

    private static void noLimitOfStepsAndWalls() {
        sound(0, "step 9;step 0;".repeat(42));
        sound(0, "floor 1 1;bar 1 1 0 0;" + "wall 0;".repeat(82));
    }

    private static byte[] with(String ahead, int sign, String behind) {
        return (ahead + (char) sign + behind).getBytes(StandardCharsets.ISO_8859_1);
    }

    private static boolean isBlank(int sign) {
        return sign == 10 || sign == 32;
    }

    private static boolean isLetter(int sign) {
        return sign >= 97 && sign <= 122;
    }

    private static boolean isDigit(int sign) {
        return sign >= 48 && sign <= 57;
    }

    // Term 1: "1 the first byte or token with which no text goes on", blanks (10, 32)
    private static void anyByteAlone() {
        for (int sign = 0; sign < 256; sign++) {
            for (int sort = 0; sort < 3; sort++) {
                judge(sort, with("", sign, ""), isBlank(sign) ? 0 : 1, 0);
            }
        }
    }

    private static void anyByteBetween() {
        for (int sign = 0; sign < 256; sign++) {
            byte[] text = with("floor", sign, "1 1;");
            if (isBlank(sign) || sign == '0' || sign == '1') {
                judge(0, text, 0, NONE);
            } else if (isDigit(sign)) {
                judge(0, text, 2, 5);
            } else {
                judge(0, text, 1, isLetter(sign) ? 0 : 5);
            }
        }
    }

    // Term 1: "NUMBERS, 1 or 2 digits", "(a longer row of digits is no token)"
    private static void anyByteInANumber() {
        for (int sign = 0; sign < 256; sign++) {
            judge(0, with("floor 1", sign, "1;"), isBlank(sign) ? 0 : 1, isDigit(sign) ? 6 : 7);
        }
        judge(0, "floor 1 " + "0".repeat(592), 1, 8);
        judge(0, "floor 1 " + "9".repeat(592), 1, 8);
        judge(0, "floor 1 4294967297;", 1, 8);
    }

    private static void anyByteBehind() {
        for (int sign = 0; sign < 256; sign++) {
            judge(0, with("floor 1 1;", sign, ""), isBlank(sign) ? 0 : 1, 10);
            judge(1, with("skip", sign, ";"), isBlank(sign) ? 0 : 1, isLetter(sign) ? 0 : sign == ';' ? 5 : 4);
        }
    }

    // Term 1: "TOKENS, as long as they go"
    private static void asLongAsTheyGo() {
        sound(0, "floor1 1;floor 20 9 ;\nfloor\n0\n9\n;");
        sound(1, "sing0;sing00;sing\n01 ;skip;skip ;");
        judge(1, "skipskip;", 1, 0);
        judge(1, "skip skip;", 1, 5);
        judge(1, "sk ip;", 1, 0);
        judge(0, "floor 11;", 1, 8);
        judge(0, "floor 1 1;floor 1 1floor", 1, 19);
        judge(0, "a".repeat(600), 1, 0);
    }

    private static List<String> tokensOf(String line) {
        return new ArrayList<>(Arrays.asList(line.replace(";", " ;").split(" ")));
    }

    /** The first token that is not as the whole line has it there, else the end. */
    private static int firstOther(List<String> whole, List<String> spoilt) {
        int i = 0;
        while (i < spoilt.size() && i < whole.size() && kindOf(spoilt.get(i)) == kindOf(whole.get(i))) {
            i++;
        }
        return i;
    }

    private static int kindOf(String token) {
        return isLetter(token.charAt(0)) ? 0 : isDigit(token.charAt(0)) ? 1 : 2;
    }

    private static void judgeTokens(int sort, List<String> whole, List<String> spoilt) {
        int first = firstOther(whole, spoilt);
        String text = String.join(" ", spoilt);
        int place = first == spoilt.size() ? text.length() : String.join(" ", spoilt.subList(0, first)).length();
        judge(sort, text, 1, first == 0 || first == spoilt.size() ? place : place + 1);
    }

    private static void linesWithOneTokenLessOrMore() {
        for (int sort = 0; sort < 3; sort++) {
            for (String line : LINES[sort]) {
                List<String> whole = tokensOf(line);
                for (int i = 0; i < whole.size(); i++) {
                    List<String> less = new ArrayList<>(whole);
                    less.remove(i);
                    judgeTokens(sort, whole, less);
                    List<String> more = new ArrayList<>(whole);
                    more.add(i, whole.get(i));
                    judgeTokens(sort, whole, more);
                }
            }
        }
    }

    private static void wordsSpoilt() {
        for (int sort = 0; sort < 3; sort++) {
            for (String line : LINES[sort]) {
                String word = tokensOf(line).get(0);
                String rest = line.substring(word.length());
                judge(sort, word.substring(1) + rest, 1, 0);
                judge(sort, word.substring(0, word.length() - 1) + rest, 1, 0);
                judge(sort, word + word.charAt(0) + rest, 1, 0);
                judge(sort, "z" + line, 1, 0);
                judge(sort, word.toUpperCase() + rest, 1, 0);
                judge(sort, word.substring(0, 1).toUpperCase() + word.substring(1) + rest, 1, 0);
                for (int i = 0; i < word.length(); i++) {
                    judge(sort, word.substring(0, i) + "x" + word.substring(i + 1) + rest, 1, 0);
                }
            }
        }
    }

    private static void wordsOfOtherSorts() {
        for (int sort = 0; sort < 3; sort++) {
            for (int other = 0; other < 3; other++) {
                for (String line : LINES[other]) {
                    if (sort != other) {
                        judge(sort, line, 1, 0);
                    }
                }
            }
        }
    }

    /** A text that ends anywhere: a line's end will do, a word's middle is that word's fault, all else the end's. */
    private static void everyCut() {
        String[] texts = {
            "floor 20 9; bar 09 4 0 10 ;\nsinger 1 9 20;step 9;wall 0;",
            "sing 04; cold 4 ;\nwell 4;skip;night ;", "dreamt 05; calm 5 ;\n"};
        for (int sort = 0; sort < 3; sort++) {
            for (int many = 0; many <= texts[sort].length(); many++) {
                String cut = texts[sort].substring(0, many);
                String open = cut.substring(cut.lastIndexOf(';') + 1);
                String word = open.strip();
                boolean half = !word.isEmpty() && word.matches("[a-z]*") && !isWhole(sort, word);
                int begins = cut.length() - open.length() + open.indexOf(word);
                judge(sort, cut, word.isEmpty() ? 0 : 1, half ? begins : many);
            }
        }
    }

    private static boolean isWhole(int sort, String word) {
        for (String line : LINES[sort]) {
            if (tokensOf(line).get(0).equals(word)) {
                return true;
            }
        }
        return false;
    }

    // Term 1: "1 the first byte or token .. If there is none, .."
    private static void faultOneIsFirst() {
        judge(0, "floor 21 10;singer 5 4 0;\0", 1, 25);
        judge(0, FLOORS + "floor 1 1;floor", 1, 75);
        judge(0, "wall 7;step 10;step", 1, 19);
        judge(0, "bar 1 1 5 0;step 100;", 1, 17);
        judge(1, "skip;".repeat(41) + ";", 1, 205);
        judge(2, "calm 9;".repeat(9) + "calm", 1, 67);
        judge(0, "floor 1 100;floor 1 1000;\0", 1, 8);
    }

    // Term 1: "the first by place", then "If there is none of these, at the end's place"
    private static void firstByPlace() {
        judge(0, "floor 21 10;", 2, 6);
        judge(0, "floor 20 10;floor 21 1;", 2, 9);
        judge(0, "singer 10 9 21;", 2, 7);
        judge(0, "singer 9 8 21;", 2, 9);
        judge(0, FLOORS + "floor 21 0;", 3, 60);
        judge(0, "floor 1 10;" + FLOORS, 2, 8);
        judge(0, "floor 1 1;".repeat(5) + "floor 1 0;floor 1 1;", 2, 58);
        judge(0, FLOORS + "floor 1 1;bar 1 5 0 0;", 3, 60);
        judge(0, "wall 7;bar 1 1 5 0;step 10;", 2, 24);
        judge(0, "wall 7;" + FLOORS + "floor 1 1;", 3, 67);
        judge(1, "sing 5;" + "skip;".repeat(40), 2, 5);
        judge(1, "skip;".repeat(40) + "sing 5;", 3, 200);
        judge(2, "calm 1;".repeat(8) + "calm 6;", 3, 56);
        judge(2, "calm 1;".repeat(7) + "calm 6;calm 1;", 2, 54);
    }

    // Term 1: "4 a FLOOR (of a BAR), a BAR (of a wall) that was told of and is not there."
    private static void notThere() {
        for (int floors = 0; floors <= 6; floors++) {
            for (int f = 0; f < 6; f++) {
                String text = "floor 1 1;".repeat(floors) + "bar 1 1 " + f + " 0; ";
                judge(0, text, f < floors ? 0 : 4, text.length());
                String rest = "bar 0 1 " + f + " 0;\n" + "floor 1 1;".repeat(floors);
                judge(0, rest, f < floors ? 0 : 4, rest.length());
            }
        }
        for (int bars = 0; bars <= 8; bars++) {
            for (int b = 0; b < 8; b++) {
                String text = "floor 1 1;" + "bar 1 1 0 0;".repeat(bars) + "wall " + b + ";\n ";
                judge(0, text, b < bars ? 0 : 4, text.length());
                String ahead = "wall " + b + ";" + "bar 1 1 0 0;".repeat(bars) + "floor 1 1;";
                judge(0, ahead, b < bars ? 0 : 4, ahead.length());
            }
        }
        judge(0, "floor 1 1;bar 1 1 0 0;wall 0;wall 1;wall 0;", 4, 43);
        judge(0, "floor 1 1;bar 1 1 1 0;bar 1 1 0 0;", 4, 34);
        sound(1, "sing 4;cold 4;well 4;");
        sound(2, "dreamt 5;calm 5;");
    }
}
