import java.util.ArrayList;
import java.util.List;

/** Every call that the document refuses: what it answers, and that all calls behind it answer as if it had not been. */
public final class RefusedTest {
    private static final int NONE = LullabyHouse.NONE;
    private static final int LEAST = Integer.MIN_VALUE;
    private static final int MOST = Integer.MAX_VALUE;
    /** 2 FLOORS, 3 BARS, 3 SINGERS, a WALLED BAR; there is a ROTA. */
    private static final String HOUSE = "floor 3 2;floor 6 5;bar 4 1 0 3;bar 4 1 1 5;bar 8 2 0 0;"
        + "singer 2 6 2;singer 4 9 3;singer 1 9 1;wall 1;step 4;";
    /** There is no ROTA. */
    private static final String MUTE = "floor 1 2;bar 9 4 0 1;singer 1 8 20;";
    private static final String NIGHTS = "sing 0;sing 1;cold 1;night;sing 1;sing 2;sing 1;night;sing 0;skip;sing 0;night;";

    private interface Call {
        long on(LullabyHouse x);
    }

    private interface Numbered {
        long on(LullabyHouse x, int k);
    }

    private record Row(String name, long refused, Numbered call) {
    }

    private RefusedTest() {
    }

    public static void main(String[] args) {
        newObject();
        tape();
        texts();
        faultyTexts();
        faultIsForgotten();
        houses();
        nights();
        mornings();
        details();
        deedsAndFacts();
        states();
        rotas();
        games();
        walledBars();
        mornings18And30();
        draws();
        chances();
        floors();
        singers();
        images();
        imagesHaveAll();
        imagesOfNothingAndOfAll();
        lastCall();
        Check.end();
    }

    private static void due(String call, long got, long want) {
        Check.due(call, got, want);
    }

    /** Two houses, one text of nights and of mornings, two images, a text that is not taken yet. */
    private static LullabyHouse scene() {
        LullabyHouse x = Teller.with(MUTE);
        x.image(0);
        Teller.tell(x, 0, NONE, MUTE);
        Teller.tell(x, 0, 0, HOUSE);
        Teller.tell(x, 1, NONE, NIGHTS);
        Teller.tell(x, 2, NONE, "calm 1;");
        Teller.tape(x, "floor 9 9;");
        x.image(2);
        Teller.tape(x, "floor 7 7; ");
        return x;
    }

    private static void same(String name, List<String> got, List<String> want) {
        for (int i = 0; i < want.size(); i++) {
            boolean alike = i < got.size() && got.get(i).equals(want.get(i));
            Check.due(name + ", then '" + want.get(i) + "' is due", alike, true);
        }
    }

    private static void refused(String name, long answer, Call call) {
        LullabyHouse x = scene();
        due(name, call.on(x), answer);
        LullabyHouse twin = scene();
        same(name, Answers.told(x), Answers.told(twin));
        same(name, Answers.rest(x), Answers.rest(twin));
    }

    private static void refusedAll(Row row, int... numbers) {
        for (int k : numbers) {
            refused(row.name + " of " + k, row.refused, x -> row.call.on(x, k));
        }
    }

    private static void refusedAll(String name, long answer, Numbered call, int... numbers) {
        refusedAll(new Row(name, answer, call), numbers);
    }

    // Promise 1: "No HOUSES, NIGHTS, MORNINGS; no images."
    private static void newObject() {
        LullabyHouse x = new LullabyHouse();
        due("1 no FAULT yet", x.fault(0), 0);
        due("1 no place yet", x.fault(1), NONE);
        for (int sort = 0; sort < 3; sort++) {
            due("1 count(" + sort + ")", x.count(sort), 0);
            due("1 text(" + sort + ", 0)", x.text(sort, 0), -2);
        }
        for (int k = 0; k < 3; k++) {
            Check.due("1 again(" + k + ")", x.again(k), false);
        }
        due("1 no FAULT", x.fault(0), 0);
        due("1 no place", x.fault(1), NONE);
        due("1 nothing on the tape", x.end(1), NONE);
        due("1 end(0)", x.end(0), 0);
        for (Row row : ofHouses()) {
            due("1 " + row.name, row.call.on(x, 0), row.refused);
        }
    }

    private static void tape() {
        refusedAll("3 end()", NONE, LullabyHouse::end, -1, -2, 12, 601, LEAST, MOST);
        refused("2 feed() beyond 600", NONE, x -> {
            Teller.tape(x, " ".repeat(581));
            long answer = x.feed(1, 2, 3, 4, 5);
            due("3 581 are left", x.end(581), 581);
            Teller.tape(x, "floor 7 7; ");
            return answer;
        });
    }

    // Promise 4: "-2: there is none such, there are as many as may be, or no such sort (no text is read then, FAULT 0)."
    private static void texts() {
        int[][] calls = {{0, NONE}, {0, 2}, {0, -2}, {0, LEAST}, {0, MOST}, {1, 1}, {1, 2}, {1, -2}, {1, LEAST}, {1, MOST},
            {2, 1}, {2, 2}, {2, -2}, {2, MOST}, {3, NONE}, {3, 0}, {-1, NONE}, {-1, 0}, {-2, 1}, {LEAST, NONE}, {MOST, 0}};
        for (int[] call : calls) {
            String name = "4 text(" + call[0] + ", " + call[1] + ")";
            LullabyHouse x = scene();
            Teller.tell(x, 1, 0, "wrong");
            due(name + " behind a FAULT", x.fault(0), 1);
            Teller.tape(x, "floor 100 0;");
            due(name, x.text(call[0], call[1]), -2);
            due(name + ", FAULT 0", x.fault(0), 0);
            due(name + ", no place", x.fault(1), NONE);
            due(name + ", the tape is taken", x.end(1), NONE);
            LullabyHouse twin = scene();
            twin.end(0);
            same(name, Answers.told(x), Answers.told(twin));
            same(name, Answers.rest(x), Answers.rest(twin));
        }
        asManyAsMayBe();
    }

    private static void asManyAsMayBe() {
        for (int sort = 0; sort < 3; sort++) {
            LullabyHouse x = new LullabyHouse();
            for (int k = 0; k < 4; k++) {
                due("4 in a place that is none, sort " + sort, x.text(sort, Math.min(k, 2)), -2);
                due("4 a further one, sort " + sort, x.text(sort, NONE), k < 2 ? k : -2);
                due("35 how many, sort " + sort, x.count(sort), Math.min(k + 1, 2));
            }
            due("4 in the place of the first", x.text(sort, 0), 0);
            due("4 in the place of the last", x.text(sort, 1), 1);
            due("35 no more, sort " + sort, x.count(sort), 2);
            due("35 none of another sort", x.count((sort + 1) % 3), 0);
        }
        LullabyHouse x = new LullabyHouse();
        for (int sort : new int[] {-1, 3, 4, LEAST, MOST}) {
            due("35 count(" + sort + ")", x.count(sort), -2);
        }
    }

    // Promise 4: "NONE: a FAULT.", and nothing is told by such a text, "(and is empty then)"
    private static void faultyTexts() {
        String[][] texts = {
            {"floor", "floor 21 1;", "floor 20 9;".repeat(7), "floor 20 9;bar 9 4 1 10;", "singer 1 9 20;wall 0;"},
            {"sing", "sing 5;", "night;".repeat(41)},
            {"calm", "calm 6;", "dreamt 5;".repeat(9)}};
        for (int sort = 0; sort < 3; sort++) {
            for (String text : texts[sort]) {
                for (int at = sort == 0 ? 0 : NONE; at < (sort == 0 ? 2 : 1); at++) {
                    LullabyHouse x = scene();
                    String name = "4 '" + text + "' at " + at;
                    due(name, Teller.tell(x, sort, at, text), NONE);
                    Check.due(name + " has a FAULT", x.fault(0) > 0, true);
                    due(name + ", the tape is taken", x.end(1), NONE);
                    same(name, Answers.told(x), Answers.told(scene()));
                    due(name + ", the FAULT stays", x.fault(1) >= 0 ? 1 : 0, 1);
                }
            }
        }
    }

    // Promise 5: "Of the latest text()", "0 without", "NONE without", "NONE for another what."
    private static void faultIsForgotten() {
        LullabyHouse x = new LullabyHouse();
        Teller.tell(x, 0, NONE, "  wrong");
        due("5 the FAULT", x.fault(0), 1);
        due("5 its place", x.fault(1), 2);
        for (int what : new int[] {-1, 2, 3, LEAST, MOST}) {
            due("5 fault(" + what + ")", x.fault(what), NONE);
        }
        x.feed(0, 0, 0, 0, 0);
        due("5 feed() leaves it", x.fault(1), 2);
        x.end(0);
        due("5 end() leaves it", x.fault(1), 2);
        due("4 nothing is a text", x.text(0, NONE), 0);
        due("5 no FAULT then", x.fault(0), 0);
        due("5 no place then", x.fault(1), NONE);
        due("5 fault(2)", x.fault(2), NONE);
    }

    private static List<Row> ofHouses() {
        List<Row> rows = new ArrayList<>();
        rows.add(new Row("6 house()", NONE, (x, h) -> x.house(h, 0)));
        rows.add(new Row("6 house(), STEP", NONE, (x, h) -> x.house(h, 3)));
        rows.add(new Row("8 stop()", NONE, (x, h) -> x.stop(h, 0)));
        rows.add(new Row("9 state()", -2, (x, h) -> x.state(h, 0, 0, 0)));
        rows.add(new Row("10 rota()", NONE, (x, h) -> x.rota(h, 0)));
        rows.add(new Row("11 few()", NONE, (x, h) -> x.few(h, false)));
        rows.add(new Row("11 few(), who", NONE, (x, h) -> x.few(h, true)));
        rows.add(new Row("12 far()", NONE, (x, h) -> x.far(h, false)));
        rows.add(new Row("12 far(), MUTE", NONE, (x, h) -> x.far(h, true)));
        rows.add(new Row("13 wakes()", NONE, (x, h) -> x.wakes(h, false)));
        rows.add(new Row("13 wakes(), under", NONE, (x, h) -> x.wakes(h, true)));
        rows.add(new Row("14 change()", NONE, (x, h) -> x.change(h)));
        rows.add(new Row("15 tussle()", -999, (x, h) -> x.tussle(h, 0, false)));
        rows.add(new Row("15 tussle(), first", -999, (x, h) -> x.tussle(h, 0, true)));
        rows.add(new Row("16 tunes()", -2, (x, h) -> x.tunes(h, 0)));
        rows.add(new Row("16 tunes(), first", -2, (x, h) -> x.tunes(h, 10)));
        rows.add(new Row("18 fits()", -2, (x, h) -> x.fits(h, 0, 0)));
        rows.add(new Row("19 drawn()", -2, (x, h) -> x.drawn(h, 1, 0, 0)));
        rows.add(new Row("20 sung()", NONE, (x, h) -> x.sung(h, 0, false)));
        rows.add(new Row("20 sung(), left", NONE, (x, h) -> x.sung(h, 0, true)));
        rows.add(new Row("21 spare()", -2, (x, h) -> x.spare(h, 0)));
        rows.add(new Row("21 spare(), LOAN", -2, (x, h) -> x.spare(h, 10)));
        rows.add(new Row("21 spare(), CATCH", -2, (x, h) -> x.spare(h, 20)));
        rows.add(new Row("22 ease()", NONE, (x, h) -> x.ease(h, NONE)));
        rows.add(new Row("22 ease(), a BAR", NONE, (x, h) -> x.ease(h, 0)));
        rows.add(new Row("23 roof()", -2, (x, h) -> x.roof(h, 0)));
        rows.add(new Row("23 roof(), ROOF", -2, (x, h) -> x.roof(h, 10)));
        rows.add(new Row("24 sleep()", NONE, (x, h) -> x.sleep(h, 0, false)));
        rows.add(new Row("24 sleep(), under", NONE, (x, h) -> x.sleep(h, 0, true)));
        rows.add(new Row("25 census()", NONE, (x, h) -> x.census(h, 0, false)));
        rows.add(new Row("25 census(), under", NONE, (x, h) -> x.census(h, 0, true)));
        rows.add(new Row("26 move()", -999, (x, h) -> x.move(h, 0, 0)));
        rows.add(new Row("27 range()", NONE, (x, h) -> x.range(h, 0)));
        rows.add(new Row("28 choir()", NONE, (x, h) -> x.choir(h, false)));
        rows.add(new Row("28 choir(), who", NONE, (x, h) -> x.choir(h, true)));
        rows.add(new Row("29 after()", -2, (x, h) -> x.after(h, 0, 3)));
        rows.add(new Row("30 odds()", NONE, (x, h) -> x.odds(h, 0, 5, false)));
        rows.add(new Row("30 odds(), under", NONE, (x, h) -> x.odds(h, 0, 5, true)));
        rows.add(new Row("31 hire()", NONE, (x, h) -> x.hire(h)));
        rows.add(new Row("32 shift()", NONE, (x, h) -> x.shift(h, 0)));
        rows.add(new Row("33 tuned()", -99, (x, h) -> x.tuned(h)));
        rows.add(new Row("34 landing()", -2, (x, h) -> x.landing(h, false)));
        rows.add(new Row("34 landing(), how many", -2, (x, h) -> x.landing(h, true)));
        return rows;
    }

    /** With none, one and two houses: the last that is there answers, the first that is not is refused. */
    private static void houses() {
        for (int many = 0; many <= 2; many++) {
            LullabyHouse x = new LullabyHouse();
            Teller.tell(x, 1, NONE, NIGHTS);
            Teller.tell(x, 2, NONE, "");
            for (int k = 0; k < many; k++) {
                Teller.tell(x, 0, NONE, "floor 1 1;floor 1 9;bar 5 1 0 1;bar 4 1 1 1;singer 1 9 9;singer 1 9 9;wall 0;");
            }
            for (Row row : ofHouses()) {
                for (int k : new int[] {-1, -2, many, many + 1, LEAST, MOST}) {
                    due(row.name + " of " + k + " of " + many, row.call.on(x, k), row.refused);
                }
            }
        }
        LullabyHouse x = new LullabyHouse();
        Teller.tell(x, 1, NONE, NIGHTS);
        Teller.tell(x, 2, NONE, "");
        for (int k = 0; k < 2; k++) {
            Teller.tell(x, 0, NONE, "floor 1 1;floor 1 9;bar 5 1 1 1;bar 4 1 0 2;singer 1 9 9;singer 1 9 9;wall 0;");
        }
        for (Row row : ofHouses()) {
            for (int k = 0; k < 2; k++) {
                boolean answers = row.call.on(x, k) != row.refused || row.name.equals("14 change()");
                Check.due(row.name + " of " + k + " of 2 answers", answers, true);
            }
            refusedAll(row, -1, 2, LEAST, MOST);
        }
    }

    private static void nights() {
        List<Row> rows = List.of(
            new Row("7 deed()", -2, (x, k) -> x.deed(k, 0, 0)),
            new Row("7 deed(), how many", -2, (x, k) -> x.deed(k, NONE, 0)),
            new Row("8 stop()", NONE, (x, k) -> x.stop(0, k)),
            new Row("9 state()", -2, (x, k) -> x.state(0, k, 0, 0)),
            new Row("29 after()", -2, (x, k) -> x.after(0, k, 3)));
        of(rows, 1);
    }

    private static void mornings() {
        List<Row> rows = List.of(
            new Row("17 fact()", -2, (x, k) -> x.fact(k, 0, 0)),
            new Row("17 fact(), how many", -2, (x, k) -> x.fact(k, NONE, 0)),
            new Row("18 fits()", -2, (x, k) -> x.fits(0, k, 0)),
            new Row("30 odds()", NONE, (x, k) -> x.odds(0, k, 5, false)),
            new Row("30 odds(), under", NONE, (x, k) -> x.odds(0, k, 5, true)));
        of(rows, 2);
    }

    private static void of(List<Row> rows, int sort) {
        for (int many = 0; many <= 2; many++) {
            LullabyHouse x = Teller.with(HOUSE);
            for (int k = 0; k < many; k++) {
                Teller.tell(x, sort, NONE, sort == 1 ? "sing 0;" : "calm 0;");
            }
            for (Row row : rows) {
                for (int k = 0; k < many; k++) {
                    Check.due(row.name + " of " + k + " of " + many, row.call.on(x, k) != row.refused, true);
                }
                for (int k : new int[] {-1, -2, many, many + 1, LEAST, MOST}) {
                    due(row.name + " of " + k + " of " + many, row.call.on(x, k), row.refused);
                }
            }
        }
        for (Row row : rows) {
            refusedAll(row, -1, 1, 2, LEAST, MOST);
        }
    }

    // Promise 6: "NONE: there is none such (of any), or for another what."
    private static void details() {
        refusedAll("6 house(), what", NONE, (x, what) -> x.house(0, what), -1, 5, 9, 12, 16, 19, 22, 29, 33, 39, 43, 49, 53,
            59, 63, 69, 73, 79, 83, 89, 93, 99, 100, 110, 1010, LEAST, MOST);
        LullabyHouse empty = Teller.with("");
        for (int what = 0; what < 120; what++) {
            due("6 of an empty HOUSE, what " + what, empty.house(0, what), what == 3 ? 9 : what < 5 ? 0 : NONE);
        }
    }

    // Promises 7 and 17: "-2: there is none such (of either), or for another what."
    private static void deedsAndFacts() {
        refusedAll("7 how many DEEDS, what", -2, (x, what) -> x.deed(0, NONE, what), -1, 1, 2, LEAST, MOST);
        refusedAll("7 deed(), what", -2, (x, what) -> x.deed(0, 0, what), -1, 2, 3, LEAST, MOST);
        refusedAll("7 deed(), k", -2, (x, k) -> x.deed(0, k, 0), -2, 12, 40, LEAST, MOST);
        refusedAll("7 deed(), k", -2, (x, k) -> x.deed(0, k, 1), -2, 12, 40, LEAST, MOST);
        refusedAll("17 how many FACTS, what", -2, (x, what) -> x.fact(0, NONE, what), -1, 1, 2, LEAST, MOST);
        refusedAll("17 fact(), what", -2, (x, what) -> x.fact(0, 0, what), -1, 2, 3, LEAST, MOST);
        refusedAll("17 fact(), k", -2, (x, k) -> x.fact(0, k, 0), -2, 1, 8, LEAST, MOST);
        refusedAll("17 fact(), k", -2, (x, k) -> x.fact(0, k, 1), -2, 1, 8, LEAST, MOST);
        LullabyHouse empty = new LullabyHouse();
        Teller.tell(empty, 1, NONE, "");
        Teller.tell(empty, 2, NONE, "");
        due("7 no DEEDS", empty.deed(0, NONE, 0), 0);
        due("7 none such", empty.deed(0, 0, 0), -2);
        due("17 no FACTS", empty.fact(0, NONE, 0), 0);
        due("17 none such", empty.fact(0, 0, 0), -2);
    }

    // Promise 9: "-2: there is no such STATE, or for another what." Promise 29: "or for another what"
    private static void states() {
        refusedAll("9 state(), n", -2, (x, n) -> x.state(0, 0, n, 0), -1, 11, 12, 13, 40, 41, LEAST, MOST);
        refusedAll("9 state(), what", -2, (x, what) -> x.state(0, 0, 3, what), -1, 9, 13, 14, 15, 20, LEAST, MOST);
        refusedAll("29 after(), what", -2, (x, what) -> x.after(0, 0, what), -1, 4, 5, LEAST, MOST);
    }

    // Promises 10, 11, 20, 21, 22
    private static void rotas() {
        refusedAll("10 rota(), no such BAR", NONE, (x, k) -> x.rota(0, k), -1, 3, 8, LEAST, MOST);
        refusedAll("10 rota(), no ROTA", NONE, (x, k) -> x.rota(1, k), 0, -1, 1);
        refused("11 few(), no ROTA", NONE, x -> x.few(1, false));
        refused("11 few(), no ROTA, who", NONE, x -> x.few(1, true));
        refusedAll("20 sung(), no such SINGER", NONE, (x, s) -> x.sung(0, s, false), -1, 3, 5, LEAST, MOST);
        refusedAll("20 sung(), left, no such SINGER", NONE, (x, s) -> x.sung(0, s, true), -1, 3, 5, LEAST, MOST);
        refusedAll("20 sung(), no ROTA", NONE, (x, s) -> x.sung(1, s, true), 0, -1, 1);
        refusedAll("21 spare(), what", -2, (x, what) -> x.spare(0, what), -1, 3, 9, 23, 24, 25, 30, LEAST, MOST);
        refused("21 SPARE, no ROTA", 0, x -> x.spare(1, 0));
        refused("21 ROTAS, no ROTA", 0, x -> x.spare(1, 1));
        refused("21 CURE, not by 20", NONE, x -> x.spare(1, 2));
        refused("21 CATCH, no ROTA", NONE, x -> x.spare(1, 20));
        refused("21 CATCH, no ROTA, no such SINGER", -2, x -> x.spare(1, 21));
        refusedAll("22 ease(), no such BAR", NONE, (x, k) -> x.ease(0, k), -2, 3, 8, LEAST, MOST);
        refusedAll("22 ease(), no ROTA", NONE, (x, k) -> x.ease(1, k), -1, 0, 1);
    }

    // Promises 14, 15, 31: "-999: another n", "NONE: n is 0", "NONE: none"
    private static void games() {
        refusedAll("15 tussle(), n", -999, (x, n) -> x.tussle(0, n, false), -1, 5, 6, LEAST, MOST);
        refusedAll("15 tussle(), first, n", -999, (x, n) -> x.tussle(0, n, true), -1, 5, 6, LEAST, MOST);
        refused("15 tussle() of 0", 0, x -> x.tussle(0, 0, false));
        refused("15 tussle() of 0, first", NONE, x -> x.tussle(0, 0, true));
        refused("14 change(), none", NONE, x -> x.change(0));
        refused("14 change(), one BAR", NONE, x -> x.change(1));
    }

    // Promise 16: "-2: not so many WALLED ones, .. or for another what."
    private static void walledBars() {
        refusedAll("16 tunes(), what", -2, (x, what) -> x.tunes(0, what), -1, 1, 9, 11, 17, 18, 19, 21, 28, 29, 30, LEAST, MOST);
        refusedAll("16 tunes(), nothing WALLED", -2, (x, what) -> x.tunes(1, what), 10, 20);
    }

    // Promise 18: "-2: there is no ROTA, a FLOOR that was told of is not there", promise 30: "or as -2 of fits()"
    private static void mornings18And30() {
        for (int what : new int[] {0, 1, 2, 10}) {
            refused("18 fits(), no ROTA, what " + what, -2, x -> x.fits(1, 0, what));
        }
        refusedAll("18 fits(), what", -2, (x, what) -> x.fits(0, 0, what), -1, 3, 9, 14, 15, 16, LEAST, MOST);
        refusedAll("30 odds(), no such SINGER", NONE, (x, s) -> x.odds(0, 0, s, false), -1, 3, 4, 6, LEAST, MOST);
        refusedAll("30 odds(), under, no such SINGER", NONE, (x, s) -> x.odds(0, 0, s, true), -1, 3, 4, 6, 32, LEAST, MOST);
        refused("30 odds(), no ROTA", NONE, x -> x.odds(1, 0, 5, false));
        for (String fact : new String[] {"dreamt 2;", "calm 2;", "calm 5;", "dreamt 0;calm 2;", "dreamt 1;calm 1;calm 2;"}) {
            LullabyHouse x = Teller.with(HOUSE);
            Teller.tell(x, 2, NONE, fact);
            for (int what : new int[] {0, 1, 2, 10, 15}) {
                due("18 '" + fact + "', what " + what, x.fits(0, 0, what), -2);
            }
            due("30 '" + fact + "'", x.odds(0, 0, 5, false), NONE);
            due("30 '" + fact + "', under", x.odds(0, 0, 5, true), NONE);
        }
    }

    // Promise 19: "-2: there is none such, another n, or for another what."
    private static void draws() {
        refusedAll("19 drawn(), n", -2, (x, n) -> x.drawn(0, 1, n, 0), -1, 61, 62, LEAST, MOST);
        refusedAll("19 drawn(), what", -2, (x, what) -> x.drawn(0, 1, 60, what), -1, 9, 13, 14, 15, 20, LEAST, MOST);
    }

    // Promises 24 and 25: "NONE: another n, or there is none such."
    private static void chances() {
        refusedAll("24 sleep()", NONE, (x, f) -> x.sleep(0, f, false), -1, 2, 6, LEAST, MOST);
        refusedAll("24 sleep(), under", NONE, (x, f) -> x.sleep(0, f, true), -1, 2, 6, LEAST, MOST);
        refusedAll("25 census()", NONE, (x, n) -> x.census(0, n, false), -1, 55, 56, LEAST, MOST);
        refusedAll("25 census(), under", NONE, (x, n) -> x.census(0, n, true), -1, 55, 56, LEAST, MOST);
    }

    // Promises 23 and 26: "-999: another n, no such FLOOR n, or there is none such (of either)."
    private static void floors() {
        refusedAll("23 roof(), what", -2, (x, what) -> x.roof(0, what), -1, 7, 9, 13, 17, 18, 20, LEAST, MOST);
        refusedAll("26 move(), n", -999, (x, n) -> x.move(0, 0, n), -1, 2, 5, 6, LEAST, MOST);
        refusedAll("26 move(), the FLOOR", -999, (x, f) -> x.move(0, f, 0), -1, 2, 5, 6, LEAST, MOST);
    }

    // Promises 27 and 32
    private static void singers() {
        refusedAll("27 range()", NONE, (x, bits) -> x.range(0, bits), 8, 9, 15, 16, 32, -1, -8, LEAST, MOST);
        refusedAll("32 shift()", NONE, (x, d) -> x.shift(0, d), -9, 9, -10, 10, LEAST, MOST);
        refused("28 choir(), by none", NONE, x -> x.choir(1, false));
        refused("28 choir(), by none, who", NONE, x -> x.choir(1, true));
        refusedAll("35 count()", -2, LullabyHouse::count, -1, 3, LEAST, MOST);
        refusedAll("5 fault()", NONE, LullabyHouse::fault, -1, 2, LEAST, MOST);
    }

    // Promises 36 and 37: "false for another k", "false if there is none such"
    private static void images() {
        refusedAll("36 image()", 0, (x, k) -> x.image(k) ? 1 : 0, -1, 3, 4, LEAST, MOST);
        refusedAll("37 again()", 0, (x, k) -> x.again(k) ? 1 : 0, -1, 1, 3, 4, LEAST, MOST);
        for (int k = 0; k < 3; k++) {
            LullabyHouse x = Teller.with(HOUSE);
            Check.due("36 image(" + k + ")", x.image(k), true);
            Teller.tell(x, 0, 0, "");
            for (int other = 0; other < 3; other++) {
                Check.due("37 again(" + other + ") with image " + k, x.again(other), other == k);
                due("37 the HOUSE then", x.house(0, 0), other < k ? 0 : 2);
            }
        }
    }

    private static void tellAll(LullabyHouse x, int rent) {
        for (int at = 0; at < 2; at++) {
            Teller.tell(x, 0, at, "floor " + (rent + at) + " 1;");
            Teller.tell(x, 1, at, "cold " + rent + ";" + "skip;".repeat(rent + at));
            Teller.tell(x, 2, at, "calm " + rent + ";" + "calm 0;".repeat(rent + at));
        }
        Teller.tell(x, 0, 0, " ".repeat(rent) + "wrong");
        Teller.tape(x, "floor " + (rent + 10) + " 1;");
    }

    private static void isAll(String name, LullabyHouse x, int rent) {
        for (int at = 0; at < 2; at++) {
            due(name + "a HOUSE", x.house(at, 10), rent + at);
            due(name + "DEEDS", x.deed(at, NONE, 0), 1 + rent + at);
            due(name + "a DEED", x.deed(at, 0, 1), rent);
            due(name + "FACTS", x.fact(at, NONE, 0), 1 + rent + at);
            due(name + "a FACT", x.fact(at, 0, 1), rent);
        }
        due(name + "the FAULT", x.fault(0), 1);
        due(name + "its place", x.fault(1), rent);
        due(name + "how long the tape is", x.end(12), NONE);
        due(name + "the tape", x.text(0, 1), 1);
        due(name + "what was on it", x.house(1, 10), rent + 10);
    }

    // Promise 36: "all that is told (the tape, the FAULT, too), as it is now", promise 37: "(other images stay)"
    private static void imagesHaveAll() {
        LullabyHouse x = new LullabyHouse();
        for (int k = 0; k < 6; k++) {
            x.text(k % 3, NONE);
        }
        for (int k = 0; k < 3; k++) {
            tellAll(x, k + 1);
            Check.due("36 image(" + k + ")", x.image(k), true);
        }
        for (int k : new int[] {0, 2, 1, 1, 0}) {
            tellAll(x, 4);
            Check.due("37 again(" + k + ")", x.again(k), true);
            isAll("37 as image " + k + ", ", x, k + 1);
        }
        tellAll(x, 4);
        Check.due("36 image 1 anew", x.image(1), true);
        Check.due("37 again(0)", x.again(0), true);
        Check.due("37 again(1)", x.again(1), true);
        isAll("37 as image 1 anew, ", x, 4);
        Check.due("37 again(2)", x.again(2), true);
        isAll("37 image 2 stayed, ", x, 3);
    }

    private static void imagesOfNothingAndOfAll() {
        LullabyHouse x = new LullabyHouse();
        Check.due("36 an image of nothing", x.image(2), true);
        Teller.tape(x, " ".repeat(590) + "floor 7 1;");
        Check.due("36 an image of a full tape", x.image(0), true);
        tellAll(x, 1);
        x.text(0, NONE);
        Check.due("37 nothing again", x.again(2), true);
        for (int sort = 0; sort < 3; sort++) {
            due("37 none of sort " + sort, x.count(sort), 0);
        }
        due("37 no FAULT", x.fault(0), 0);
        due("37 an empty tape", x.end(1), NONE);
        Check.due("37 a full tape again", x.again(0), true);
        due("37 no more comes", x.feed(0, 0, 0, 0, 0), NONE);
        due("37 all of it", x.end(600), 600);
        due("37 is a text", x.text(0, NONE), 0);
        due("37 of this RENT", x.house(0, 10), 7);
    }

    // "An object is used for at most 512 calls after it has been made"
    private static void lastCall() {
        LullabyHouse x = new LullabyHouse();
        for (int k = 0; k < 500; k++) {
            x.end(0);
        }
        x.feed(0x666c6f6f, 0x72203220, 0x393b2020, 0x20202020, 0x20202020);
        due("the 502nd call", x.text(0, NONE), 0);
        for (int k = 0; k < 9; k++) {
            x.image(k % 3);
        }
        due("the 512th call", x.house(0, 20), 9);
    }
}
