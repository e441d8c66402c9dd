/** Each promise by its number: ordinary inputs, the edges that the document names, and wrong inputs. */
public final class PromiseTest {
    private static final int NONE = LullabyHouse.NONE;
    private static final String HOUSE = "floor 3 2;floor 6 5;bar 4 1 0 3;bar 4 1 1 5;bar 8 2 0 0;"
        + "singer 2 6 2;singer 4 9 3;singer 1 9 1;wall 1;step 4;";
    private static final String NIGHTS = "sing 0;sing 1;cold 1;night;sing 1;sing 2;sing 1;night;sing 0;skip;sing 0;";

    private PromiseTest() {
    }

    private static void due(String call, long got, long want) {
        Check.due(call, got, want);
    }

    public static void main(String[] args) {
        newObject();
        tape();
        texts();
        faults();
        house();
        deedsAndFacts();
        stopAndState();
        rotas();
        farAndMute();
        wakesAndChange();
        tussles();
        tunes();
        mornings();
        drawn();
        spareAndEase();
        roofs();
        chances();
        moves();
        choirs();
        afterwards();
        hires();
        shifts();
        landings();
        images();
        nothingThere();
        Check.end();
    }

    private static void newObject() {
        LullabyHouse x = new LullabyHouse();
        due("1 count(0)", x.count(0), 0);
        due("1 count(1)", x.count(1), 0);
        due("1 count(2)", x.count(2), 0);
        due("35 count(3)", x.count(3), -2);
        due("35 count(-1)", x.count(-1), -2);
        due("1 fault(0)", x.fault(0), 0);
        due("1 fault(1)", x.fault(1), NONE);
        for (int k = -1; k < 4; k++) {
            Check.due("1 again(" + k + ")", x.again(k), false);
        }
        due("1 the tape is empty", x.end(1), NONE);
    }

    private static void tape() {
        LullabyHouse x = new LullabyHouse();
        for (int k = 1; k <= 30; k++) {
            due("2 feed", x.feed(0x20202020, 0x20202020, 0x20202020, 0x20202020, 0x20202020), 20 * k);
        }
        due("2 feed beyond 600", x.feed(1, 2, 3, 4, 5), NONE);
        due("3 end(601)", x.end(601), NONE);
        due("3 end(600)", x.end(600), 600);
        due("3 end(-1)", x.end(-1), NONE);
        due("3 end(Integer.MIN_VALUE)", x.end(Integer.MIN_VALUE), NONE);
        due("2 600 blanks are a text", x.text(0, NONE), 0);
        due("4 the tape is empty behind", x.end(1), NONE);
        x.feed(0x666c6f6f, 0x72203120, 0x313b80ff, 0, 0);
        due("3 end(581)", x.end(21), NONE);
        due("3 end(13)", x.end(13), 13);
        due("3 end(12)", x.end(12), 12);
        due("3 end(13) again", x.end(13), NONE);
        due("3 end(12), all of it", x.end(12), 12);
        due("2 feed may go on", x.feed(0, 0, 0, 0, 0), 32);
        due("2 feed up to 592", feedOn(x), 592);
        due("2 no more than 600", x.feed(0, 0, 0, 0, 0), NONE);
        due("3 end(580)", x.end(580), 580);
        due("2 just 600", x.feed(0, 0, 0, 0, 0), 600);
        due("4 bytes 0", x.text(0, NONE), NONE);
        due("3 end(0) of nothing", x.end(0), 0);
        x.feed(1, 2, 3, 4, 5);
        due("3 end(0)", x.end(0), 0);
        due("3 nothing is left", x.end(1), NONE);
        due("5 fault(0)", x.fault(0), 1);
        due("5 fault(1)", x.fault(1), 10);
    }

    private static int feedOn(LullabyHouse x) {
        int size = 0;
        for (int k = 0; k < 28; k++) {
            size = x.feed(0, 0, 0, 0, 0);
        }
        return size;
    }

    private static void texts() {
        LullabyHouse x = new LullabyHouse();
        for (int sort = 0; sort < 3; sort++) {
            due("4 in the place of none", Teller.tell(x, sort, 0, ""), -2);
            due("4 at -2", x.text(sort, -2), -2);
            due("4 the first", x.text(sort, NONE), 0);
            due("4 the second", x.text(sort, NONE), 1);
            due("4 a third", x.text(sort, NONE), -2);
            due("4 in the place of the second", x.text(sort, 1), 1);
            due("4 in the place of a third", x.text(sort, 2), -2);
            due("35 count", x.count(sort), 2);
        }
        due("4 sort 3", x.text(3, NONE), -2);
        due("4 sort -1", x.text(-1, 0), -2);
        Teller.tell(x, 0, 0, HOUSE);
        Teller.tell(x, 0, 0, "floor 1 2;bar");
        due("5 a fault", x.fault(0), 1);
        due("4 a fault leaves the house", x.house(0, 1), 3);
        due("4 a fault takes the tape", x.end(1), NONE);
        Teller.tape(x, "floor 7 7;");
        due("4 no place", x.text(0, NONE), -2);
        due("5 no fault then", x.fault(0), 0);
        due("5 no place of a fault then", x.fault(1), NONE);
        due("4 the tape is taken all the same", x.end(1), NONE);
        due("4 an empty tape", x.end(0), 0);
        due("4 nothing was read, the first house", x.house(0, 10), 3);
        due("4 nothing was read, the second house", x.house(1, 0), 0);
        takenByEach();
        due("5 fault(2)", x.fault(2), NONE);
        due("5 fault(-1)", x.fault(-1), NONE);
    }

    private static void takenByEach() {
        int[][] refused = {{0, 0}, {0, 2}, {0, -2}, {1, 0}, {2, 0}, {1, 5}, {3, NONE}, {-1, NONE}, {3, 0}};
        for (int[] call : refused) {
            LullabyHouse x = new LullabyHouse();
            x.feed(0, 0, 0, 0, 0);
            due("4 text(" + call[0] + ", " + call[1] + ")", x.text(call[0], call[1]), -2);
            due("2 feed behind text(" + call[0] + ", " + call[1] + ")", x.feed(0, 0, 0, 0, 0), 20);
        }
        LullabyHouse x = new LullabyHouse();
        x.feed(0, 0, 0, 0, 0);
        x.image(1);
        x.text(0, 0);
        x.again(1);
        due("37 the tape of the image stays", x.feed(0, 0, 0, 0, 0), 40);
    }

    private static void faulty(int sort, String text, int fault, int place) {
        LullabyHouse x = new LullabyHouse();
        due("4 '" + text + "'", Teller.tell(x, sort, NONE, text), fault == 0 ? 0 : NONE);
        due("5 fault(0) of '" + text + "'", x.fault(0), fault);
        due("5 fault(1) of '" + text + "'", x.fault(1), place);
    }

    private static void faults() {
        faulty(0, "", 0, NONE);
        faulty(0, " \n ", 0, NONE);
        faulty(0, "floor4 2;floor\n04 02 ;", 0, NONE);
        faulty(0, "floor 4 2", 1, 9);
        faulty(0, "floor 4 2 \n", 1, 11);
        faulty(0, "floor 4 ;", 1, 8);
        faulty(0, "floor 4 2 3;", 1, 10);
        faulty(0, "floor 4 100;", 1, 8);
        faulty(0, "floor 4 002;", 1, 8);
        faulty(0, "floors 4 2;", 1, 0);
        faulty(0, "Floor 4 2;", 1, 0);
        faulty(0, "floorz 4 2;", 1, 0);
        faulty(0, "floor 4 2;a", 1, 10);
        faulty(0, "`", 1, 0);
        faulty(0, "floor 4 2:", 1, 9);
        faulty(0, "floor 4 /;", 1, 8);
        faulty(0, "floor 4\t2;", 1, 7);
        faulty(0, ";", 1, 0);
        faulty(0, "3;", 1, 0);
        faulty(0, "sing 1;", 1, 0);
        faulty(1, "floor 1 1;", 1, 0);
        faulty(2, "sing 1;", 1, 0);
        faulty(1, "skip 1;", 1, 5);
        faulty(1, "sing;", 1, 4);
        faulty(0, "floor 99 99;x", 1, 12);
        faulty(0, "floor 21 1;", 2, 6);
        faulty(0, "floor 20 0;", 2, 9);
        faulty(0, "floor 20 10;", 2, 9);
        faulty(0, "floor 1 1;bar 10 1 0 0;", 2, 14);
        faulty(0, "floor 1 1;bar 9 0 0 0;", 2, 16);
        faulty(0, "floor 1 1;bar 9 5 0 0;", 2, 16);
        faulty(0, "floor 1 1;bar 9 4 6 0;", 2, 18);
        faulty(0, "floor 1 1;bar 9 4 0 11;", 2, 20);
        faulty(0, "floor 1 1;bar 9 4 0 10;", 0, NONE);
        faulty(0, "singer 0 9 1;", 2, 7);
        faulty(0, "singer 10 9 1;", 2, 7);
        faulty(0, "singer 5 4 1;", 2, 9);
        faulty(0, "singer 5 10 1;", 2, 9);
        faulty(0, "singer 5 5 0;", 2, 11);
        faulty(0, "singer 5 5 21;", 2, 11);
        faulty(0, "singer 5 5 20;", 0, NONE);
        faulty(0, "step 10;", 2, 5);
        faulty(0, "wall 8;", 2, 5);
        faulty(0, "wall 0;", 4, 7);
        faulty(0, "wall 0; ", 4, 8);
        faulty(0, "wall 0;floor 1 1;bar 1 1 0 0;", 0, NONE);
        faulty(0, "bar 1 1 0 0;", 4, 12);
        faulty(0, "bar 1 1 1 0;floor 1 1;", 4, 22);
        faulty(0, "bar 1 1 0 0;floor 1 1;", 0, NONE);
        faulty(0, "floor 1 1;".repeat(7) + "floor 99 1;", 3, 60);
        faulty(0, "floor 1 1;".repeat(5) + "floor 99 1;floor 1 1;", 2, 56);
        faulty(0, "floor 1 1;" + "bar 1 1 0 0;".repeat(9), 3, 106);
        faulty(0, "bar 1 1 0 0;".repeat(9), 3, 96);
        faulty(0, "singer 1 1 1;".repeat(6), 3, 65);
        faulty(0, "singer 1 1 1;".repeat(6) + "wall", 1, 82);
        faulty(1, "skip;".repeat(41), 3, 200);
        faulty(1, "skip;".repeat(40), 0, NONE);
        faulty(1, "well 5;", 2, 5);
        faulty(1, "sing 4;cold 4;well 4;skip;night;", 0, NONE);
        faulty(2, "calm 1;".repeat(9), 3, 56);
        faulty(2, "calm 5;dreamt 0;", 0, NONE);
        faulty(2, "calm 6;", 2, 5);
        faulty(2, "dreamt;", 1, 6);
    }

    private static void house() {
        LullabyHouse x = Teller.with("step 3;" + HOUSE + "wall 2;wall 2;");
        int[] want = {2, 3, 3, 4, 6};
        for (int what = 0; what < 5; what++) {
            due("6 house(0, " + what + ")", x.house(0, what), want[what]);
        }
        due("6 house(0, 5)", x.house(0, 5), NONE);
        due("6 RENT", x.house(0, 11), 6);
        due("6 PEOPLE", x.house(0, 21), 5);
        due("6 no FLOOR", x.house(0, 12), NONE);
        due("6 NOTE", x.house(0, 32), 8);
        due("6 LENGTH", x.house(0, 42), 2);
        due("6 FLOOR", x.house(0, 51), 1);
        due("6 RISK", x.house(0, 61), 5);
        due("6 no BAR", x.house(0, 63), NONE);
        due("6 LOW", x.house(0, 71), 4);
        due("6 HIGH", x.house(0, 81), 9);
        due("6 BREATH", x.house(0, 91), 3);
        due("6 no SINGER", x.house(0, 93), NONE);
        due("6 house(0, 100)", x.house(0, 100), NONE);
        due("6 house(0, -1)", x.house(0, -1), NONE);
        due("6 the first STEP", Teller.with("").house(0, 3), 9);
    }

    private static void deedsAndFacts() {
        LullabyHouse x = Teller.with(HOUSE);
        Teller.tell(x, 1, NONE, "sing 4;cold 3;well 2;skip;night;");
        due("7 how many", x.deed(0, NONE, 0), 5);
        due("7 deed(0, NONE, 1)", x.deed(0, NONE, 1), -2);
        for (int k = 0; k < 5; k++) {
            due("7 deed(0, " + k + ", 0)", x.deed(0, k, 0), k);
            due("7 deed(0, " + k + ", 1)", x.deed(0, k, 1), k < 3 ? 4 - k : NONE);
        }
        due("7 deed(0, 5, 0)", x.deed(0, 5, 0), -2);
        due("7 deed(0, -2, 0)", x.deed(0, -2, 0), -2);
        due("7 deed(0, 0, 2)", x.deed(0, 0, 2), -2);
        due("7 deed(0, 0, -1)", x.deed(0, 0, -1), -2);
        due("7 deed(1, NONE, 0)", x.deed(1, NONE, 0), -2);
        Teller.tell(x, 2, NONE, "dreamt 1;calm 5;");
        due("17 how many", x.fact(0, NONE, 0), 2);
        due("17 DREAMT", x.fact(0, 0, 0), 0);
        due("17 its FLOOR", x.fact(0, 0, 1), 1);
        due("17 CALM", x.fact(0, 1, 0), 1);
        due("17 its FLOOR", x.fact(0, 1, 1), 5);
        due("17 fact(0, 2, 0)", x.fact(0, 2, 0), -2);
        due("17 fact(0, NONE, 1)", x.fact(0, NONE, 1), -2);
        due("17 fact(0, 0, 2)", x.fact(0, 0, 2), -2);
        due("17 fact(1, NONE, 0)", x.fact(1, NONE, 0), -2);
        due("17 fact(-1, NONE, 0)", x.fact(-1, NONE, 0), -2);
    }

    private static int stopOf(String house, String nights) {
        LullabyHouse x = Teller.with(house);
        Teller.tell(x, 1, NONE, nights);
        return x.stop(0, 0);
    }

    private static void stopAndState() {
        due("8 as in the document's run", stopOf(HOUSE, NIGHTS), 10);
        due("8 two bars one behind the other", stopOf("floor 1 1;bar 1 1 0 0;bar 1 1 0 0;singer 1 9 9;",
            "sing 0;sing 0;"), 1);
        due("8 a rest between will do", stopOf("floor 1 1;bar 1 1 0 0;bar 0 1 0 0;bar 1 1 0 0;singer 1 9 9;",
            "sing 0;sing 0;sing 0;"), 2);
        due("8 a skipped bar between will do", stopOf("floor 1 1;bar 1 1 0 0;bar 1 1 0 0;bar 1 1 0 0;singer 1 9 9;",
            "sing 0;skip;sing 0;skip;"), 3);
        due("8 a new night will do", stopOf("floor 1 1;bar 1 1 0 0;singer 1 9 1;", "sing 0;night;sing 0;"), 3);
        due("8 no breath", stopOf("floor 1 1;bar 1 4 0 0;singer 1 9 3;", "sing 0;"), 0);
        due("8 just enough", stopOf("floor 1 1;bar 1 4 0 0;singer 1 9 4;", "sing 0;"), 1);
        due("8 no next bar to skip", stopOf("floor 1 1;bar 0 4 0 0;", "night;skip;"), 1);
        due("8 no such singer", stopOf("singer 1 1 1;", "cold 0;well 0;cold 0;cold 0;well 1;"), 4);
        LullabyHouse x = Teller.with("floor 1 2;floor 3 4;floor 5 6;bar 0 1 0 0;bar 9 2 1 0;bar 0 1 0 0;bar 3 1 2 0;"
            + "bar 3 1 0 0;singer 1 9 5;singer 1 4 5;");
        Teller.tell(x, 1, NONE, "sing 1;cold 0;sing 0;sing 1;night;skip;night;");
        int[][] want = {
            {0, 1, 0, 0, 0, 0, 0, -1, 0, -2, 5, 5, -2},
            {0, 3, 0, 0, 0, 1, 0, -1, 2, -2, 5, 3, -2},
            {0, 3, 0, 0, 0, 1, 1, -1, 2, -2, 5, 3, -2},
            {0, 4, 0, 0, 0, 1, 1, 0, 2, -2, 4, 3, -2},
            {0, -1, 0, 0, 0, 1, 1, -1, 2, -2, 4, 2, -2},
            {1, 1, 0, 0, 9, 1, 1, -1, 0, -2, 5, 5, -2},
            {1, 3, 6, 0, 9, 1, 1, -1, 0, -2, 5, 5, -2},
            {2, 1, 0, 12, 9, 1, 1, -1, 0, -2, 5, 5, -2}};
        for (int n = 0; n < want.length; n++) {
            for (int what = 0; what < want[n].length; what++) {
                due("9 state(0, 0, " + n + ", " + what + ")", x.state(0, 0, n, what), want[n][what]);
            }
        }
        due("9 state(0, 0, 8, 0)", x.state(0, 0, 8, 0), -2);
        due("9 state(0, 0, -1, 0)", x.state(0, 0, -1, 0), -2);
        due("9 state(0, 0, 0, -1)", x.state(0, 0, 0, -1), -2);
        LullabyHouse y = Teller.with("floor 1 2;floor 3 4;floor 5 6;bar 1 1 2 0;bar 1 1 1 0;bar 0 1 0 0;");
        Teller.tell(y, 1, NONE, "skip;night;");
        due("9 awake by skip", y.state(0, 0, 1, 2), 4);
        due("9 the night wakes by what is left, no rests", y.state(0, 0, 2, 3), 10);
        due("9 who sleeps pays", y.state(0, 0, 2, 4), 1);
    }

    private static void rotas() {
        LullabyHouse x = Teller.with("floor 1 1;bar 5 2 0 0;bar 0 4 0 0;bar 5 2 0 0;bar 5 2 0 0;singer 5 5 2;singer 1 9 4;");
        int[] want = {1, 5, 0, 1, -1};
        for (int k = 0; k < want.length; k++) {
            due("10 rota(0, " + k + ")", x.rota(0, k), want[k]);
        }
        due("10 rota(0, -1)", x.rota(0, -1), NONE);
        due("11 few", x.few(0, false), 2);
        due("11 who", x.few(0, true), 3);
        LullabyHouse none = Teller.with("floor 1 1;bar 5 2 0 0;singer 6 9 9;");
        due("10 no ROTA", none.rota(0, 0), NONE);
        due("11 no ROTA", none.few(0, false), NONE);
        due("11 no ROTA, who", none.few(0, true), NONE);
        LullabyHouse rests = Teller.with("floor 1 1;bar 0 2 0 0;");
        due("10 a REST", rests.rota(0, 0), 5);
        due("11 nobody is needed", rests.few(0, false), 0);
        due("11 nobody is needed, who", rests.few(0, true), 0);
        LullabyHouse several = Teller.with("floor 1 1;bar 5 1 0 0;bar 4 1 0 0;singer 1 1 9;singer 1 9 9;singer 1 9 9;"
            + "singer 5 9 9;");
        due("11 the least of several", several.few(0, true), 6);
        due("20 SUNG", x.sung(0, 1, false), 2);
        due("20 left", x.sung(0, 1, true), 0);
        due("20 SUNG of another", x.sung(0, 0, false), 1);
        due("20 no such SINGER", x.sung(0, 2, false), NONE);
        due("20 no such SINGER", x.sung(0, -1, true), NONE);
        due("20 no ROTA", none.sung(0, 0, true), NONE);
        due("20 a singer who does not sing", several.sung(0, 0, true), 9);
    }

    private static void farAndMute() {
        LullabyHouse x = Teller.with("floor 1 1;bar 0 1 0 0;bar 5 1 0 0;bar 0 1 0 0;bar 9 1 0 0;bar 5 1 0 0;bar 1 1 0 0;"
            + "singer 2 6 9;");
        due("12 FAR", x.far(0, false), 3);
        due("12 MUTE", x.far(0, true), 40);
        LullabyHouse breath = Teller.with("floor 1 1;bar 5 2 0 0;bar 0 1 0 0;bar 5 2 0 0;bar 0 1 0 0;singer 2 6 3;");
        due("12 FAR by breath", breath.far(0, false), 2);
        due("12 no MUTE", breath.far(0, true), 0);
        due("12 no BARS", Teller.with("").far(0, false), 0);
        due("12 all BARS", Teller.with(HOUSE).far(0, false), 3);
    }

    private static void wakesAndChange() {
        LullabyHouse x = Teller.with("floor 0 1;floor 0 2;bar 5 1 0 5;bar 5 1 1 2;bar 0 1 0 10;bar 1 1 1 0;");
        due("13 WAKES", x.wakes(0, false), 17);
        due("13 WAKES, under", x.wakes(0, true), 10);
        due("14 CHANGE", x.change(0), 3);
        LullabyHouse rest = Teller.with("floor 0 1;floor 0 2;bar 0 1 1 5;bar 5 1 0 2;");
        due("14 with a REST", rest.change(0), 1);
        LullabyHouse alike = Teller.with("floor 0 1;floor 0 2;bar 1 1 1 5;bar 5 1 1 2;");
        due("14 none", alike.change(0), NONE);
        LullabyHouse several = Teller.with("floor 0 1;floor 0 2;bar 1 1 0 5;bar 1 1 1 0;bar 1 1 1 0;");
        due("14 the first of several", several.change(0), 1);
        due("13 no FLOORS", Teller.with("").wakes(0, false), 0);
        due("13 no FLOORS, under", Teller.with("").wakes(0, true), 1);
        due("13 for sure", Teller.with("floor 0 9;bar 1 1 0 10;").wakes(0, false), 9);
        due("13 eight bars", Teller.with("floor 0 9;" + "bar 1 1 0 1;".repeat(8)).wakes(0, false), 512579511L);
        due("13 eight bars, under", Teller.with("floor 0 9;" + "bar 1 1 0 1;".repeat(8)).wakes(0, true), 100000000L);
    }

    private static void tussles() {
        LullabyHouse x = Teller.with("floor 2 1;floor 1 1;bar 1 3 1 0;bar 0 4 0 0;bar 1 4 0 0;bar 1 4 1 0;");
        int[][] want = {{0, NONE}, {4, 2}, {3, 3}, {7, 3}, {6, 0}};
        for (int n = 0; n < 5; n++) {
            due("15 tussle(0, " + n + ", false)", x.tussle(0, n, false), want[n][0]);
            due("15 tussle(0, " + n + ", true)", x.tussle(0, n, true), want[n][1]);
        }
        due("15 TUSSLE of 0", x.tussle(0, 0, false), 0);
        due("15 TUSSLE of 0, first", x.tussle(0, 0, true), NONE);
        due("15 TUSSLE of 5", x.tussle(0, 5, false), -999);
        due("15 TUSSLE of -1", x.tussle(0, -1, true), -999);
        LullabyHouse dear = Teller.with("floor 9 1;bar 1 3 0 0;");
        due("15 better none", dear.tussle(0, 2, true), 8);
        due("15 worth of none", dear.tussle(0, 2, false), 0);
        LullabyHouse even = Teller.with("floor 3 1;bar 1 3 0 0;");
        due("15 the least that is best", even.tussle(0, 2, true), 0);
        due("15 no BARS", Teller.with("").tussle(0, 4, true), 8);
    }

    private static void tunes() {
        LullabyHouse x = Teller.with(HOUSE);
        due("16 how many", x.tunes(0, 0), 5);
        due("16 the first row", x.tunes(0, 10), 4);
        due("16 not SURE", x.tunes(0, 20), NONE);
        due("16 not so many", x.tunes(0, 11), -2);
        due("16 not so many, SURE", x.tunes(0, 21), -2);
        due("16 what 1", x.tunes(0, 1), -2);
        due("16 what 30", x.tunes(0, 30), -2);
        due("16 what -1", x.tunes(0, -1), -2);
        LullabyHouse sure = Teller.with("floor 1 1;bar 1 1 0 0;bar 1 1 0 0;bar 0 1 0 0;bar 7 1 0 0;wall 2;step 2;"
            + "bar 1 1 0 0;wall 1;wall 4;wall 1;");
        due("16 a walled REST is a NOTE", sure.tunes(0, 0), 5);
        due("16 the first row", sure.tunes(0, 10), 3);
        due("16 the first row", sure.tunes(0, 11), 5);
        due("16 the first row", sure.tunes(0, 12), 5);
        due("16 SURE", sure.tunes(0, 20), 3);
        due("16 SURE", sure.tunes(0, 21), 5);
        due("16 not SURE", sure.tunes(0, 22), NONE);
        LullabyHouse apart = Teller.with("floor 1 1;bar 1 1 0 0;bar 5 1 0 0;bar 5 1 0 0;step 2;wall 2;");
        due("16 no TUNES", apart.tunes(0, 0), 0);
        due("16 no TUNES, first", apart.tunes(0, 10), NONE);
        due("16 no TUNES, SURE", apart.tunes(0, 20), NONE);
        LullabyHouse nine = Teller.with("floor 1 1;bar 9 1 0 0;bar 1 1 0 0;step 0;wall 1;");
        due("16 the first row, 9", nine.tunes(0, 10), 9);
        due("16 SURE, 9", nine.tunes(0, 20), 9);
        due("16 nothing is WALLED", Teller.with("").tunes(0, 0), 1);
        LullabyHouse all = Teller.with("floor 1 1;" + "bar 1 1 0 0;".repeat(8) + "wall 0;wall 1;wall 2;wall 3;wall 4;"
            + "wall 5;wall 6;wall 7;");
        due("16 all rows there are", all.tunes(0, 0), 43046721);
        tunesWithRests();
    }

    private static void tunesWithRests() {
        String rest = "bar 0 1 0 0;";
        String nine = "bar 9 1 0 0;";
        String one = "bar 1 1 0 0;";
        due("16 told NOTES, a REST between", Teller.with("floor 1 1;" + one + rest + nine + "step 2;").tunes(0, 0), 1);
        LullabyHouse behind = Teller.with("floor 1 1;" + nine + rest + nine + "wall 2;step 0;");
        due("16 behind a REST", behind.tunes(0, 0), 9);
        due("16 behind a REST, first", behind.tunes(0, 10), 1);
        due("16 behind a REST, SURE", behind.tunes(0, 20), NONE);
        LullabyHouse ahead = Teller.with("floor 1 1;" + nine + rest + nine + "wall 0;step 0;");
        due("16 ahead of a REST", ahead.tunes(0, 0), 9);
        due("16 ahead of a REST, first", ahead.tunes(0, 10), 1);
        LullabyHouse ends = Teller.with("floor 1 1;" + rest + nine + rest + rest + nine + rest + "wall 1;wall 4;step 0;");
        due("16 two parted by RESTS", ends.tunes(0, 0), 81);
        LullabyHouse parts = Teller.with("floor 1 1;" + nine + nine + rest + one + one + one + "wall 1;wall 3;wall 4;step 1;");
        due("16 parts, how many", parts.tunes(0, 0), 2 * 5);
        due("16 parts, first", parts.tunes(0, 10), 8);
        due("16 parts, first", parts.tunes(0, 11), 1);
        due("16 parts, first", parts.tunes(0, 12), 1);
        LullabyHouse sure = Teller.with("floor 1 1;" + nine + nine + rest + one + one + "wall 1;wall 4;step 0;");
        due("16 parts, SURE", sure.tunes(0, 20), 9);
        due("16 parts, SURE", sure.tunes(0, 21), 1);
        LullabyHouse torn = Teller.with("floor 1 1;" + nine + one + rest + one + one + "wall 4;step 2;");
        due("16 too far apart ahead of a REST", torn.tunes(0, 0), 0);
        due("16 too far apart ahead of a REST, first", torn.tunes(0, 10), NONE);
        due("16 too far apart ahead of a REST, SURE", torn.tunes(0, 20), NONE);
        LullabyHouse last = Teller.with("floor 1 1;" + one + one + rest + nine + one + "wall 0;step 2;");
        due("16 too far apart behind a REST", last.tunes(0, 0), 0);
        due("16 RESTS alone", Teller.with("floor 1 1;" + rest + rest).tunes(0, 0), 1);
        due("16 a walled REST parts nothing", Teller.with("floor 1 1;" + one + rest + nine + "wall 1;step 3;").tunes(0, 0), 0);
    }

    private static void mornings() {
        String house = "floor 1 1;floor 1 1;floor 1 1;bar 9 1 0 0;bar 8 1 1 0;bar 9 1 1 0;bar 1 1 2 0;"
            + "singer 1 9 2;singer 8 8 1;singer 1 2 9;";
        LullabyHouse x = Teller.with(house);
        Teller.tell(x, 2, NONE, "");
        Teller.tell(x, 2, NONE, "dreamt 1;calm 0;");
        due("18 the ROTA", x.rota(0, 1), 1);
        due("18 all FIT", x.fits(0, 0, 0), 4);
        due("18 not SURE", x.fits(0, 0, 1), NONE);
        due("18 ASK", x.fits(0, 0, 2), 1);
        due("18 the first", x.fits(0, 0, 10), 0);
        due("18 the last", x.fits(0, 0, 13), 5);
        due("18 not so many", x.fits(0, 0, 14), -2);
        due("18 what 3", x.fits(0, 0, 3), -2);
        due("18 what 9", x.fits(0, 0, 9), -2);
        due("18 what -1", x.fits(0, 0, -1), -2);
        due("18 by dreams", x.fits(0, 1, 0), 1);
        due("18 SURE", x.fits(0, 1, 1), 1);
        due("30 ODDS", x.odds(0, 0, 5, false), 1);
        due("30 ODDS, under", x.odds(0, 0, 5, true), 4);
        due("30 not he", x.odds(0, 1, 5, false), 0);
        due("30 not he, under", x.odds(0, 1, 5, true), 1);
        due("30 he", x.odds(0, 1, 1, true), 1);
        due("30 no such SINGER", x.odds(0, 0, 3, false), NONE);
        due("30 no such SINGER", x.odds(0, 0, 6, true), NONE);
        due("30 no such SINGER", x.odds(0, 0, -1, true), NONE);
        Teller.tell(x, 2, 1, "dreamt 1;calm 1;");
        due("18 nothing FITS", x.fits(0, 1, 0), 0);
        due("18 nothing FITS, SURE", x.fits(0, 1, 1), NONE);
        due("18 nothing FITS, ASK", x.fits(0, 1, 2), NONE);
        due("30 nothing FITS", x.odds(0, 1, 0, false), NONE);
        Teller.tell(x, 2, 1, "calm 3;");
        due("18 no such FLOOR", x.fits(0, 1, 0), -2);
        due("30 no such FLOOR", x.odds(0, 1, 5, true), NONE);
        Teller.tell(x, 2, 1, "calm 2;calm 0;calm 1;");
        due("18 nobody alone", x.fits(0, 1, 1), 5);
        Teller.tell(x, 0, NONE, "floor 1 1;bar 9 1 0 0;");
        due("18 no ROTA", x.fits(1, 0, 0), -2);
        due("30 no ROTA", x.odds(1, 0, 5, false), NONE);
        Teller.tell(x, 0, 1, "");
        due("18 no FLOORS, ASK", x.fits(1, 0, 2), NONE);
        due("18 nobody", x.fits(1, 0, 1), 5);
    }

    private static void drawn() {
        LullabyHouse x = Teller.with(HOUSE);
        due("19 DRAWN 0 times", x.drawn(0, 77, 0, 1), 0);
        due("19 DRAWN -1 times", x.drawn(0, 77, -1, 1), -2);
        due("19 DRAWN 61 times", x.drawn(0, 77, 61, 1), -2);
        due("19 what 9", x.drawn(0, 77, 60, 9), -2);
        due("19 what 13", x.drawn(0, 77, 60, 13), -2);
        // x is 12345 first: 0 of 8, sing; then 1103527590 * .. : a singer.
        int seed = 0;
        int one = (seed = seed * 1103515245 + 12345) >>> 16;
        int two = (seed * 1103515245 + 12345) >>> 16;
        due("19 the first number", one % 8, 0);
        due("19 who sings", x.drawn(0, 0, 1, 10 + two % 3), x.house(0, 90 + two % 3) - 1);
        due("19 the next BAR", x.drawn(0, 0, 1, 1), 1);
        LullabyHouse empty = Teller.with("floor 1 1;bar 1 1 0 0;");
        int nights = 0;
        seed = -5;
        for (int k = 0; k < 60; k++) {
            seed = seed * 1103515245 + 12345;
            nights += (seed >>> 16) % 8 == 7 ? 1 : 0;
        }
        due("19 without SINGERS", empty.drawn(0, -5, 60, 0), nights);
    }

    private static void spareAndEase() {
        LullabyHouse x = Teller.with(HOUSE);
        due("21 SPARE", x.spare(0, 0), 5);
        due("21 ROTAS", x.spare(0, 1), 4);
        due("21 CURE", x.spare(0, 2), 0);
        due("21 CATCH", x.spare(0, 21), 2);
        due("21 no such SINGER", x.spare(0, 23), -2);
        due("21 what 3", x.spare(0, 3), -2);
        due("21 what 9", x.spare(0, 9), -2);
        due("21 what -1", x.spare(0, -1), -2);
        LullabyHouse weak = Teller.with("floor 1 1;bar 5 4 0 0;bar 5 4 0 0;bar 5 4 0 0;singer 1 9 1;singer 1 9 3;");
        due("21 no ROTA, SPARE", weak.spare(0, 0), 0);
        due("21 no ROTA, ROTAS", weak.spare(0, 1), 0);
        due("21 CURE", weak.spare(0, 2), 5);
        due("21 LOAN of 0", weak.spare(0, 10), 0);
        due("21 LOAN of 3", weak.spare(0, 13), 2);
        due("21 LOAN of 9", weak.spare(0, 19), 3);
        due("21 no ROTA, CATCH", weak.spare(0, 20), NONE);
        due("22 no ROTA", weak.ease(0, NONE), NONE);
        due("22 no ROTA", weak.ease(0, 0), NONE);
        LullabyHouse one = Teller.with("floor 1 1;" + "bar 5 4 0 0;bar 0 1 0 0;".repeat(4) + "singer 1 9 7;");
        due("21 LOAN of 8", one.spare(0, 18), 6);
        due("21 LOAN of 9, more than 11 in all", one.spare(0, 19), 8);
        due("21 CURE, more than 11 in all", one.spare(0, 2), 9);
        due("21 the most CURE there is", Teller.with("floor 1 1;" + "bar 5 4 0 0;bar 0 1 0 0;".repeat(4)
            + "singer 1 9 1;").spare(0, 2), 15);
        due("21 no CURE", Teller.with("floor 1 1;bar 5 4 0 0;singer 6 9 1;").spare(0, 2), NONE);
        LullabyHouse most = Teller.with("floor 1 1;" + "bar 5 1 0 0;".repeat(8) + "singer 1 9 20;".repeat(5));
        due("21 the most ROTAS there are", most.spare(0, 1), 81920);
        due("22 EASE", most.ease(0, NONE), 2);
        int[] want = {0, 1, 0, 1, 2, 3, 2, 3};
        for (int k = 0; k < 8; k++) {
            due("22 ease(0, " + k + ")", most.ease(0, k), want[k]);
        }
        due("22 no such BAR", most.ease(0, 8), NONE);
        due("22 no such BAR", most.ease(0, -2), NONE);
        LullabyHouse rests = Teller.with("floor 1 1;bar 0 1 0 0;");
        due("22 a REST", rests.ease(0, 0), 5);
        due("22 nobody uses any", rests.ease(0, NONE), 0);
        LullabyHouse twice = Teller.with("floor 1 3;floor 1 4;bar 9 1 0 0;bar 0 1 0 0;bar 8 1 0 0;bar 0 1 0 0;bar 7 1 1 0;"
            + "singer 1 9 9;");
        due("21 CATCH counts a FLOOR once", twice.spare(0, 20), 3);
    }

    private static void roofs() {
        LullabyHouse x = Teller.with("floor 3 2;floor 6 5;floor 20 9;bar 4 1 0 3;bar 4 1 1 5;bar 0 2 2 0;bar 4 1 1 0;"
            + "bar 4 1 1 0;bar 0 2 0 0;bar 5 1 2 0;");
        int[] want = {6, 16, 29, 2, 0, 3, 0};
        for (int what = 0; what < want.length; what++) {
            due("23 roof(0, " + what + ")", x.roof(0, what), want[what]);
        }
        due("23 what 7", x.roof(0, 7), -2);
        due("23 what -1", x.roof(0, -1), -2);
        due("23 ROOF", x.roof(0, 10), 16);
        due("23 ROOF", x.roof(0, 16), 9);
        due("23 ROOF of a REST", x.roof(0, 12), 0);
        due("23 no such BAR", x.roof(0, 17), -2);
        LullabyHouse empty = Teller.with("floor 1 1;bar 0 1 0 0;");
        due("23 no QUIETEST", empty.roof(0, 0), NONE);
        due("23 no CLIMB", empty.roof(0, 3), 0);
        due("23 no CLIMB, where", empty.roof(0, 4), NONE);
        due("23 no ECHO", empty.roof(0, 5), 0);
        due("23 no ECHO, where", empty.roof(0, 6), NONE);
        LullabyHouse over = Teller.with("floor 1 1;" + "bar 1 1 0 0;".repeat(5));
        due("23 ECHO, not over each other", over.roof(0, 5), 2);
    }

    private static void chances() {
        LullabyHouse x = Teller.with(HOUSE);
        due("24 SLEEP", x.sleep(0, 0, false), 7);
        due("24 SLEEP, under", x.sleep(0, 0, true), 10);
        due("24 SLEEP above", x.sleep(0, 1, false), 7);
        due("24 SLEEP above, under", x.sleep(0, 1, true), 20);
        due("24 no such FLOOR", x.sleep(0, 2, true), NONE);
        due("24 no such FLOOR", x.sleep(0, -1, true), NONE);
        due("25 CENSUS of 0", x.census(0, 0, false), 1);
        due("25 CENSUS of 5", x.census(0, 5, false), 13);
        due("25 CENSUS of 5, under", x.census(0, 5, true), 20);
        due("25 CENSUS of 7", x.census(0, 7, false), 3);
        due("25 CENSUS of 8", x.census(0, 8, false), 0);
        due("25 CENSUS of 8, under", x.census(0, 8, true), 1);
        due("25 CENSUS of 54", x.census(0, 54, false), 0);
        due("25 CENSUS of 55", x.census(0, 55, false), NONE);
        due("25 CENSUS of -1", x.census(0, -1, true), NONE);
    }

    private static void moves() {
        LullabyHouse x = Teller.with(HOUSE);
        due("26 MOVE up", x.move(0, 0, 1), -4);
        due("26 MOVE down", x.move(0, 1, 0), 2);
        due("26 MOVE nowhere", x.move(0, 1, 1), 0);
        due("26 no such FLOOR n", x.move(0, 1, 2), -999);
        due("26 another n", x.move(0, 1, 6), -999);
        due("26 another n", x.move(0, 1, -1), -999);
        due("26 no such FLOOR", x.move(0, 2, 0), -999);
        due("26 RESTS do not count", Teller.with("floor 1 1;floor 1 1;bar 0 1 0 0;").move(0, 0, 1), 0);
    }

    private static void choirs() {
        LullabyHouse x = Teller.with(HOUSE);
        due("27 RANGE", x.range(0, 1), 5);
        due("27 RANGE of nobody", x.range(0, 0), 0);
        due("27 RANGE of all", x.range(0, 7), 9);
        due("27 one is not there", x.range(0, 8), NONE);
        due("27 bits below 0", x.range(0, -1), NONE);
        due("28 CHOIR", x.choir(0, false), 1);
        due("28 CHOIR, who", x.choir(0, true), 2);
        LullabyHouse none = Teller.with("floor 1 1;bar 9 1 0 0;singer 1 8 1;");
        due("28 by none", none.choir(0, false), NONE);
        due("28 by none, who", none.choir(0, true), NONE);
        due("28 nobody is needed", Teller.with("singer 1 1 1;").choir(0, false), 0);
        due("28 the fewest, then the least", Teller.with("floor 1 1;bar 9 1 0 0;bar 1 1 0 0;bar 5 1 0 0;singer 1 3 1;"
            + "singer 4 6 1;singer 7 9 1;singer 1 5 1;singer 4 9 1;").choir(0, true), 12);
    }

    private static void afterwards() {
        LullabyHouse x = Teller.with(HOUSE);
        Teller.tell(x, 1, NONE, NIGHTS);
        int[] want = {6, 1, 0, 1, -2};
        for (int what = 0; what < want.length; what++) {
            due("29 after(0, 0, " + what + ")", x.after(0, 0, what), want[what]);
        }
        due("29 what -1", x.after(0, 0, -1), -2);
        Teller.tell(x, 1, NONE, "cold 0;");
        due("29 no FIRST", x.after(0, 1, 0), NONE);
        due("29 no HOARSE", x.after(0, 1, 1), NONE);
        due("29 no WORST", x.after(0, 1, 2), NONE);
        due("29 no CALMS", x.after(0, 1, 3), 0);
        Teller.tell(x, 1, 1, "sing 0;skip;sing 1;night;night;night;");
        due("29 WORST, the first of several", x.after(0, 1, 2), 1);
        due("29 HOARSE, the least of several", x.after(0, 1, 1), 0);
    }

    private static void hires() {
        due("31 one is there without", Teller.with(HOUSE).hire(0), 0);
        due("31 HIRE", Teller.with("floor 1 1;bar 5 4 0 0;bar 0 4 0 0;bar 5 3 0 0;bar 6 1 0 0;singer 6 6 1;").hire(0), 7);
        due("31 two one behind the other", Teller.with("floor 1 1;bar 5 4 0 0;bar 5 3 0 0;singer 6 6 1;").hire(0), NONE);
        due("31 a sixth", Teller.with("floor 1 1;bar 5 4 0 0;bar 0 1 0 0;bar 5 2 0 0;" + "singer 6 6 1;".repeat(5)).hire(0), 6);
        due("31 no BARS", Teller.with("").hire(0), 0);
    }

    private static void shifts() {
        LullabyHouse x = Teller.with("floor 1 1;bar 1 1 0 0;bar 0 1 0 0;bar 9 1 0 0;bar 3 1 0 0;singer 2 4 1;singer 6 6 1;");
        due("32 SHIFT of 0", x.shift(0, 0), 1);
        due("32 SHIFT of 1", x.shift(0, 1), 2);
        due("32 SHIFT of 3", x.shift(0, 3), 2);
        due("32 SHIFT of -8", x.shift(0, -8), 0);
        due("32 SHIFT of 8", x.shift(0, 8), 0);
        due("32 SHIFT of 9", x.shift(0, 9), NONE);
        due("32 SHIFT of -9", x.shift(0, -9), NONE);
        due("33 TUNED", x.tuned(0), 1);
        due("33 above 0", Teller.with("floor 1 1;bar 5 1 0 0;singer 4 4 1;singer 6 6 1;").tuned(0), 1);
        due("33 below 0", Teller.with("floor 1 1;bar 5 1 0 0;singer 3 3 1;singer 8 8 1;").tuned(0), -2);
        due("33 no BARS", Teller.with("").tuned(0), 0);
    }

    private static void landings() {
        LullabyHouse x = Teller.with("floor 1 1;floor 1 1;floor 1 1;bar 0 1 0 0;bar 0 1 0 0;bar 5 1 2 0;bar 5 1 1 0;");
        due("34 LANDING, the least", x.landing(0, false), 1);
        due("34 how many", x.landing(0, true), 1);
        due("34 no FLOORS", Teller.with("").landing(0, false), NONE);
        due("34 no FLOORS, how many", Teller.with("").landing(0, true), 0);
        due("34 no BARS", Teller.with("floor 1 1;").landing(0, false), 0);
    }

    private static void images() {
        LullabyHouse x = Teller.with(HOUSE);
        Teller.tell(x, 1, NONE, NIGHTS);
        Teller.tell(x, 2, NONE, "calm 1;");
        Teller.tell(x, 0, NONE, "wall 0;");
        Teller.tape(x, "floor 7 7;");
        Check.due("36 image(3)", x.image(3), false);
        Check.due("36 image(-1)", x.image(-1), false);
        Check.due("36 image(2)", x.image(2), true);
        Check.due("37 again(0)", x.again(0), false);
        Check.due("37 again(3)", x.again(3), false);
        due("36 the tape stays", x.text(0, NONE), 1);
        Teller.tell(x, 0, 0, "");
        Teller.tell(x, 1, NONE, "");
        Teller.tell(x, 2, 0, "");
        Check.due("36 image(0)", x.image(0), true);
        Check.due("37 again(2)", x.again(2), true);
        due("37 houses", x.count(0), 1);
        due("37 the house", x.house(0, 4), 2);
        due("37 nights", x.count(1), 1);
        due("37 deeds", x.deed(0, NONE, 0), 11);
        due("37 facts", x.fact(0, NONE, 0), 1);
        due("37 the fault", x.fault(0), 4);
        due("37 its place", x.fault(1), 7);
        due("37 the tape", x.end(10), 10);
        due("37 what is on it", x.text(0, 0), 0);
        due("37 told anew", x.house(0, 10), 7);
        Check.due("37 other images stay", x.again(0), true);
        due("37 as image 0", x.count(0), 2);
        due("37 as image 0", x.house(0, 0), 0);
        due("37 as image 0", x.count(1), 2);
        due("37 as image 0", x.fault(0), 0);
        Check.due("37 an image is not used up", x.again(2), true);
        due("37 as image 2", x.house(0, 10), 3);
    }

    /** Every method without a house, nights, mornings. */
    private static void nothingThere() {
        LullabyHouse x = Teller.with(HOUSE);
        Teller.tell(x, 1, NONE, NIGHTS);
        Teller.tell(x, 2, NONE, "");
        int[] others = {-1, 1, 2, Integer.MAX_VALUE, Integer.MIN_VALUE};
        for (int k : others) {
            due("6 no HOUSE", x.house(k, 0), NONE);
            due("7 no NIGHTS", x.deed(k, 0, 0), -2);
            due("8 no HOUSE", x.stop(k, 0), NONE);
            due("8 no NIGHTS", x.stop(0, k), NONE);
            due("9 no HOUSE", x.state(k, 0, 0, 0), -2);
            due("9 no NIGHTS", x.state(0, k, 0, 0), -2);
            due("10 no HOUSE", x.rota(k, 0), NONE);
            due("11 no HOUSE", x.few(k, true), NONE);
            due("12 no HOUSE", x.far(k, false), NONE);
            due("12 no HOUSE", x.far(k, true), NONE);
            due("13 no HOUSE", x.wakes(k, true), NONE);
            due("14 no HOUSE", x.change(k), NONE);
            due("15 no HOUSE", x.tussle(k, 0, true), -999);
            due("16 no HOUSE", x.tunes(k, 0), -2);
            due("17 no MORNINGS", x.fact(k, 0, 0), -2);
            due("18 no HOUSE", x.fits(k, 0, 0), -2);
            due("18 no MORNINGS", x.fits(0, k, 0), -2);
            due("19 no HOUSE", x.drawn(k, 1, 0, 0), -2);
            due("20 no HOUSE", x.sung(k, 0, false), NONE);
            due("21 no HOUSE", x.spare(k, 0), -2);
            due("22 no HOUSE", x.ease(k, NONE), NONE);
            due("23 no HOUSE", x.roof(k, 1), -2);
            due("24 no HOUSE", x.sleep(k, 0, true), NONE);
            due("25 no HOUSE", x.census(k, 0, false), NONE);
            due("26 no HOUSE", x.move(k, 0, 1), -999);
            due("27 no HOUSE", x.range(k, 0), NONE);
            due("28 no HOUSE", x.choir(k, false), NONE);
            due("29 no HOUSE", x.after(k, 0, 3), -2);
            due("29 no NIGHTS", x.after(0, k, 3), -2);
            due("30 no HOUSE", x.odds(k, 0, 5, true), NONE);
            due("30 no MORNINGS", x.odds(0, k, 5, true), NONE);
            due("31 no HOUSE", x.hire(k), NONE);
            due("32 no HOUSE", x.shift(k, 0), NONE);
            due("33 no HOUSE", x.tuned(k), -99);
            due("34 no HOUSE", x.landing(k, true), -2);
            due("35 no sort", x.count(k == 1 || k == 2 ? 3 : k), -2);
        }
    }
}
