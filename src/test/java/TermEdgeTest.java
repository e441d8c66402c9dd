import java.math.BigInteger;

/** Terms 2 to 6 at their edges: nothing told, as much told as may be, the last that is so and the first that is not. */
public final class TermEdgeTest {
    private static final int NONE = LullabyHouse.NONE;
    private static final String FLOOR = "floor 1 1;";
    private static final String REST = "bar 0 4 0 10;";
    /** As much as may be: 54 PEOPLE, RENTS of 120, one SINGER for all NOTES five times. */
    private static final String FLOORS = "floor 20 9;".repeat(6);
    private static final String SINGERS = "singer 1 9 20;".repeat(5);

    private TermEdgeTest() {
    }

    public static void main(String[] args) {
        reach();
        breath();
        nextBar();
        aheadOfTheNextBar();
        nightsOver();
        fullNights();
        statesUpToStop();
        emptyHouse();
        restsAlone();
        rotas();
        fewAndFar();
        wakes();
        change();
        tussles();
        steps();
        walls();
        fits();
        draws();
        drawsWithBars();
        drawsWithSingers();
        loans();
        ease();
        roofs();
        climbs();
        echoes();
        sleepAndCensus();
        moves();
        ranges();
        choirs();
        afterwards();
        odds();
        hire();
        shifts();
        landings();
        Check.end();
    }

    private static void due(String call, long got, long want) {
        Check.due(call, got, want);
    }

    private static LullabyHouse night(String house, String deeds) {
        LullabyHouse x = Teller.with(house);
        due("1 '" + house + "'", x.count(0), 1);
        due("1 '" + deeds + "'", Teller.tell(x, 1, NONE, deeds), 0);
        return x;
    }

    private static LullabyHouse morning(String house, String facts) {
        LullabyHouse x = Teller.with(house);
        due("1 '" + house + "'", x.count(0), 1);
        due("1 '" + facts + "'", Teller.tell(x, 2, NONE, facts), 0);
        return x;
    }

    private static String bars(String notes) {
        StringBuilder text = new StringBuilder();
        for (int i = 0; i < notes.length(); i++) {
            text.append("bar ").append(notes.charAt(i)).append(" 1 0 0;");
        }
        return text.toString();
    }

    // Term 2: "LOW .. HIGH, with a cold LOW .. HIGH less 2"
    private static void reach() {
        for (int low = 1; low <= 9; low++) {
            for (int high = low; high <= 9; high++) {
                for (int note = 1; note <= 9; note++) {
                    String house = FLOOR + bars("" + note) + "singer " + low + " " + high + " 1;";
                    String name = "2 NOTE " + note + " of " + low + " .. " + high;
                    boolean well = note >= low && note <= high;
                    boolean cold = note >= low && note <= high - 2;
                    LullabyHouse x = night(house, "sing 0;night;cold 0;sing 0;night;well 0;sing 0;");
                    due(name, x.state(0, 0, 1, 5), well ? 0 : 1);
                    due(name + ", with a cold", x.state(0, 0, 4, 5) - x.state(0, 0, 3, 5), cold ? 0 : 1);
                    due(name + ", well again", x.state(0, 0, 7, 5) - x.state(0, 0, 6, 5), well ? 0 : 1);
                    due("3 ROTA, " + name, x.rota(0, 0), well ? 0 : NONE);
                    due("3 MUTE, " + name, x.far(0, true), well ? 0 : 1);
                    due("5 CATCH, " + name, x.spare(0, 20), !well ? NONE : cold ? 0 : 1);
                    due("5 RANGE, " + name, x.range(0, 1), high - low + 1);
                }
            }
        }
    }

    // Term 2: "if his BREATH left is its LENGTH or more: it is that much less"
    private static void breath() {
        for (int breath = 1; breath <= 20; breath++) {
            for (int length = 1; length <= 4; length++) {
                String house = FLOOR + ("bar 5 " + length + " 0 0;" + REST).repeat(4) + "singer 1 9 " + breath + ";";
                LullabyHouse x = night(house, "sing 0;sing 0;sing 0;sing 0;night;");
                int sung = Math.min(4, breath / length);
                String name = " of BREATH " + breath + ", LENGTH " + length;
                due("8 STOP" + name, x.stop(0, 0), sung == 4 ? 5 : sung);
                due("9 BREATH left" + name, x.state(0, 0, sung, 10), breath - sung * length);
                due("9 no such STATE" + name, x.state(0, 0, sung + 1, 10), sung == 4 ? breath : -2);
                due("10 ROTA" + name, x.rota(0, 0), sung == 4 ? 0 : NONE);
                due("12 FAR" + name, x.far(0, false), 2 * sung);
                due("20 left" + name, x.sung(0, 0, true), sung == 4 ? breath - 4 * length : NONE);
            }
        }
    }

    // Term 2: "The next BAR is the next one that is no REST", "no next BAR (of sing, skip)"
    private static void nextBar() {
        LullabyHouse x = night(FLOOR + bars("00500300") + "singer 1 9 9;", "sing 0;skip;cold 0;well 0;skip;");
        int[] next = {2, 5, NONE, NONE, NONE};
        for (int n = 0; n < next.length; n++) {
            due("9 the next BAR behind " + n, x.state(0, 0, n, 1), next[n]);
        }
        due("8 no next BAR to skip", x.stop(0, 0), 4);
        due("8 no next BAR to sing", night(FLOOR + bars("5") + "singer 1 9 9;", "skip;sing 0;").stop(0, 0), 1);
        due("8 the last of eight", night(FLOOR + bars("11111111"), "skip;".repeat(9)).stop(0, 0), 8);
        for (int singers = 0; singers <= 5; singers++) {
            for (int s = 0; s < 5; s++) {
                String house = FLOOR + bars("5") + "singer 1 9 9;".repeat(singers);
                int can = s < singers ? 1 : 0;
                due("8 sing " + s + " of " + singers, night(house, "sing " + s + ";").stop(0, 0), can);
                due("8 cold " + s + " of " + singers, night(house, "cold " + s + ";").stop(0, 0), can);
                due("8 well " + s + " of " + singers, night(house, "well " + s + ";").stop(0, 0), can);
                due("9 who has a cold", night(house, "cold " + s + ";").state(0, 0, can, 6), can << s);
            }
        }
    }

    // Promise 9: "who sang the BAR just ahead of the next one (NONE: nobody, it is a REST, or there is no next BAR)"
    private static void aheadOfTheNextBar() {
        String house = FLOOR + bars("5505555") + SINGERS;
        LullabyHouse x = night(house, "sing 4;sing 0;sing 0;sing 4;skip;sing 4;night;sing 4;");
        int[] want = {NONE, 4, NONE, 0, 4, NONE, NONE, NONE, 4};
        for (int n = 0; n < want.length; n++) {
            due("9 who sang, behind " + n, x.state(0, 0, n, 7), want[n]);
        }
        due("8 he sang the BAR just ahead", night(house, "sing 4;sing 4;").stop(0, 0), 1);
        due("8 a REST between will do", night(house, "sing 3;sing 4;sing 4;").stop(0, 0), 3);
        due("8 nobody sang what is skipped", night(house, "sing 4;sing 0;sing 4;skip;sing 4;").stop(0, 0), 5);
        due("8 a night between will do", night(house, "sing 4;night;sing 4;").stop(0, 0), 3);
    }

    // Term 2: "night", with each FLOOR that may be the least, with a next BAR and with none
    private static void nightsOver() {
        for (int floors = 1; floors <= 6; floors++) {
            for (int f = 0; f < floors; f++) {
                String house = "floor 20 9;".repeat(floors) + "bar 1 1 " + f + " 0;" + "singer 1 9 9;";
                String name = " of FLOOR " + f + " of " + floors;
                LullabyHouse x = night(house, "night;skip;night;sing 0;night;");
                due("9 asleep at first" + name, x.state(0, 0, 0, 2), 0);
                due("9 WOKEN by what was left" + name, x.state(0, 0, 1, 3), 9 * (floors - f));
                due("9 paid" + name, x.state(0, 0, 1, 4), 20 * f);
                due("9 asleep in the next night" + name, x.state(0, 0, 1, 2), 0);
                due("9 AWAKE by skip" + name, x.state(0, 0, 2, 2), (1 << floors) - (1 << f));
                due("9 WOKEN by skip" + name, x.state(0, 0, 3, 3), 18 * (floors - f));
                due("9 nobody WOKEN" + name, x.state(0, 0, 5, 3), 18 * (floors - f));
                due("9 all pay" + name, x.state(0, 0, 5, 4), 40 * f + 20 * floors);
                due("9 the night" + name, x.state(0, 0, 5, 0), 3);
                due("29 CALMS" + name, x.after(0, 0, 3), 1);
            }
        }
        LullabyHouse x = night(FLOORS + "bar 0 1 0 0;bar 1 1 5 0;bar 1 1 4 0;bar 0 1 0 0;singer 1 9 9;", "sing 0;night;");
        due("9 a REST's FLOOR does not wake", x.state(0, 0, 2, 3), 18);
        due("9 what is sung does not wake", x.state(0, 0, 2, 4), 80);
        LullabyHouse y = night(FLOORS + "bar 9 1 4 0;bar 9 1 5 0;bar 9 1 2 0;bar 9 1 3 0;" + "singer 1 8 9;".repeat(2),
            "skip;skip;night;sing 0;sing 1;night;");
        due("9 AWAKE by both that are skipped", y.state(0, 0, 2, 2), 48);
        due("9 WOKEN by all that were left", y.state(0, 0, 3, 3), 36);
        due("9 DREAMT by both that are sung", y.state(0, 0, 5, 8), 48);
        due("9 WOKEN by all that were left", y.state(0, 0, 6, 3), 72);
        due("9 none DREAMT in the next night", y.state(0, 0, 6, 8), 0);
        due("9 two DREAMT in all", y.state(0, 0, 6, 5), 2);
        LullabyHouse awake = night(FLOORS + "bar 9 1 0 0;bar 9 1 3 0;singer 1 8 9;", "skip;sing 0;night;");
        due("9 all AWAKE", awake.state(0, 0, 2, 2), 63);
        due("9 a FLOOR that is AWAKE DREAMS, too", awake.state(0, 0, 2, 8), 8);
        due("9 and counts", awake.state(0, 0, 3, 5), 1);
        due("29 and is FIRST", awake.after(0, 0, 0), 1);
    }

    // As much as may be: 40 nights of 54 PEOPLE, or of RENTS of 120
    private static void fullNights() {
        LullabyHouse x = night(FLOORS + "bar 1 1 0 0;", "night;".repeat(40));
        due("8 STOP", x.stop(0, 0), 40);
        due("9 the night", x.state(0, 0, 40, 0), 40);
        due("9 WOKEN", x.state(0, 0, 40, 3), 40 * 54);
        due("9 paid", x.state(0, 0, 40, 4), 0);
        due("9 behind 39", x.state(0, 0, 39, 0), 39);
        due("9 behind 41", x.state(0, 0, 41, 0), -2);
        LullabyHouse calm = night(FLOORS, "night;".repeat(40));
        due("9 WOKEN", calm.state(0, 0, 40, 3), 0);
        due("9 paid", calm.state(0, 0, 40, 4), 40 * 120);
        due("29 CALMS", calm.after(0, 0, 3), 40);
        due("29 WORST", calm.after(0, 0, 2), 0);
        LullabyHouse dreams = night(FLOORS + bars("99999999") + "singer 1 1 20;singer 1 1 20;",
            "sing 0;sing 1;".repeat(4) + "sing 0;".repeat(32));
        due("8 STOP", dreams.stop(0, 0), 8);
        due("9 FLOORS DREAMT", dreams.state(0, 0, 8, 5), 8);
        due("9 each once", dreams.state(0, 0, 8, 8), 1);
    }

    // Term 2: "A STATE is behind the first n DEEDS, n up to STOP."
    private static void statesUpToStop() {
        for (int stop = 0; stop <= 8; stop++) {
            LullabyHouse x = night(FLOOR + bars("1".repeat(stop)), "skip;".repeat(10));
            due("8 STOP", x.stop(0, 0), stop);
            for (int n = -2; n <= 42; n++) {
                due("9 state(0, 0, " + n + ", 0) up to " + stop, x.state(0, 0, n, 0), n < 0 || n > stop ? -2 : 0);
            }
        }
        LullabyHouse none = night(FLOOR, "");
        due("8 no DEEDS", none.stop(0, 0), 0);
        due("9 behind none", none.state(0, 0, 0, 0), 0);
        due("9 behind one", none.state(0, 0, 1, 0), -2);
    }

    // Nothing told: each call's answer of a HOUSE without FLOORS, BARS and SINGERS
    private static void emptyHouse() {
        LullabyHouse x = night("", "night;night;");
        Teller.tell(x, 2, NONE, "");
        due("8 STOP", x.stop(0, 0), 2);
        int[] state = {2, NONE, 0, 0, 0, 0, 0, NONE, 0, -2, -2};
        for (int what = 0; what < state.length; what++) {
            due("9 what " + what, x.state(0, 0, 2, what), state[what]);
            due("19 what " + what, x.drawn(0, 1, 0, what), what == 0 ? 0 : state[what]);
        }
        due("10 no BAR", x.rota(0, 0), NONE);
        due("11 by nobody", x.few(0, false), 0);
        due("11 nobody", x.few(0, true), 0);
        due("12 FAR", x.far(0, false), 0);
        due("12 MUTE", x.far(0, true), 0);
        fraction("13 WAKES", x.wakes(0, false), x.wakes(0, true), 0, 1);
        due("14 CHANGE", x.change(0), NONE);
        for (int n = 0; n <= 4; n++) {
            due("15 TUSSLE of " + n, x.tussle(0, n, false), 0);
            due("15 TUSSLE of " + n + ", first", x.tussle(0, n, true), n == 0 ? NONE : 8);
        }
        due("16 one TUNE, an empty row", x.tunes(0, 0), 1);
        due("16 none WALLED", x.tunes(0, 10), -2);
        int[] fits = {1, 5, NONE, -2};
        for (int what = 0; what < fits.length; what++) {
            due("18 what " + what, x.fits(0, 0, what), fits[what]);
        }
        due("18 nobody", x.fits(0, 0, 10), 5);
        due("20 no SINGER", x.sung(0, 0, false), NONE);
        int[] spare = {0, 1, 0};
        for (int what = 0; what < spare.length; what++) {
            due("21 what " + what, x.spare(0, what), spare[what]);
        }
        emptyHouseOnwards(x);
    }

    private static void emptyHouseOnwards(LullabyHouse x) {
        due("21 LOAN of 9", x.spare(0, 19), 0);
        due("21 no SINGER", x.spare(0, 20), -2);
        due("22 EASE", x.ease(0, NONE), 0);
        due("22 no BAR", x.ease(0, 0), NONE);
        int[] roof = {NONE, 0, 0, 0, NONE, 0, NONE, -2};
        for (int what = 0; what < roof.length; what++) {
            due("23 what " + what, x.roof(0, what), roof[what]);
        }
        due("23 no BAR", x.roof(0, 10), -2);
        due("24 no FLOOR", x.sleep(0, 0, false), NONE);
        fraction("25 CENSUS of 0", x.census(0, 0, false), x.census(0, 0, true), 1, 1);
        fraction("25 CENSUS of 1", x.census(0, 1, false), x.census(0, 1, true), 0, 1);
        due("26 no FLOOR", x.move(0, 0, 0), -999);
        due("27 RANGE of nobody", x.range(0, 0), 0);
        due("27 no SINGER", x.range(0, 1), NONE);
        due("28 CHOIR", x.choir(0, false), 0);
        due("28 CHOIR, who", x.choir(0, true), 0);
        int[] after = {NONE, NONE, 0, 2};
        for (int what = 0; what < after.length; what++) {
            due("29 what " + what, x.after(0, 0, what), after[what]);
        }
        fraction("30 nobody", x.odds(0, 0, 5, false), x.odds(0, 0, 5, true), 1, 1);
        due("30 no SINGER", x.odds(0, 0, 0, false), NONE);
        due("31 HIRE", x.hire(0), 0);
        due("32 SHIFT", x.shift(0, 8), 0);
        due("33 TUNED", x.tuned(0), 0);
        due("34 no FLOORS", x.landing(0, false), NONE);
        due("34 how many", x.landing(0, true), 0);
    }

    private static void fraction(String name, long n, long d, long wantN, long wantD) {
        due(name + ", N", n, wantN);
        due(name + ", D", d, wantD);
        due(name + ", in least terms", BigInteger.valueOf(n).gcd(BigInteger.valueOf(d)).longValue(), 1);
    }

    // RESTS are nobody's: eight of them
    private static void restsAlone() {
        LullabyHouse x = night(FLOORS + REST.repeat(8) + SINGERS, "night;skip;");
        due("8 none to skip", x.stop(0, 0), 1);
        due("9 nobody WOKEN", x.state(0, 0, 1, 3), 0);
        due("9 all pay", x.state(0, 0, 1, 4), 120);
        due("10 5 for a REST", x.rota(0, 7), 5);
        due("10 no such BAR", x.rota(0, 8), NONE);
        due("11 by nobody", x.few(0, false), 0);
        due("12 RESTS, too", x.far(0, false), 8);
        due("12 no MUTE", x.far(0, true), 0);
        fraction("13 WAKES", x.wakes(0, false), x.wakes(0, true), 0, 1);
        due("15 nothing to skip", x.tussle(0, 1, true), 8);
        due("16 one TUNE", x.tunes(0, 0), 1);
        due("20 SUNG", x.sung(0, 4, false), 0);
        due("20 left", x.sung(0, 4, true), 20);
        due("21 SPARE", x.spare(0, 0), 31);
        due("21 ROTAS", x.spare(0, 1), 1);
        due("22 EASE", x.ease(0, NONE), 0);
        due("22 5 for a REST", x.ease(0, 7), 5);
        due("23 no QUIETEST", x.roof(0, 0), NONE);
        due("23 no CLIMB", x.roof(0, 4), NONE);
        due("23 0 of a REST", x.roof(0, 17), 0);
        fraction("24 SLEEP", x.sleep(0, 5, false), x.sleep(0, 5, true), 1, 1);
        due("26 MOVE", x.move(0, 0, 5), 0);
        due("28 CHOIR", x.choir(0, true), 0);
        due("32 SHIFT", x.shift(0, 1), 0);
        due("34 LANDING, the least", x.landing(0, false), 0);
        due("34 how many", x.landing(0, true), 0);
    }

    // Term 3: "none sings two BARS one just behind the other, none longer in all than his BREATH"
    private static void rotas() {
        LullabyHouse x = Teller.with(FLOOR + "bar 5 4 0 0;".repeat(8) + "singer 5 5 16;singer 5 5 16;");
        for (int k = 0; k < 8; k++) {
            due("10 rota(0, " + k + ")", x.rota(0, k), k % 2);
        }
        for (int s = 0; s < 2; s++) {
            due("20 left of " + s, x.sung(0, s, true), 0);
            due("20 SUNG of " + s, x.sung(0, s, false), 4);
        }
        due("21 ROTAS", x.spare(0, 1), 2);
        due("10 one BREATH less", Teller.with(FLOOR + "bar 5 4 0 0;".repeat(8) + "singer 5 5 16;singer 5 5 15;").rota(0, 0), NONE);
        due("10 one SINGER less", Teller.with(FLOOR + "bar 5 4 0 0;".repeat(2) + "singer 5 5 16;").rota(0, 0), NONE);
        due("10 a NOTE more", Teller.with(FLOOR + "bar 6 4 0 0;singer 5 5 16;").rota(0, 0), NONE);
        due("10 a NOTE less", Teller.with(FLOOR + "bar 4 4 0 0;singer 5 5 16;").rota(0, 0), NONE);
        LullabyHouse most = Teller.with(FLOOR + bars("55555555") + SINGERS);
        due("21 as many ROTAS as may be", most.spare(0, 1), 81920);
        due("10 the first", most.rota(0, 7), 1);
        for (int breath = 1; breath <= 20; breath++) {
            LullabyHouse three = Teller.with(FLOOR + bars("505050") + "singer 5 5 " + breath + ";singer 5 5 20;");
            int[] counts = {4, 7, 8};
            due("21 ROTAS, a REST between, BREATH " + breath, three.spare(0, 1), counts[Math.min(breath, 3) - 1]);
        }
        due("21 ROTAS, RESTS around", Teller.with(FLOOR + bars("0550") + "singer 5 5 1;".repeat(5)).spare(0, 1), 20);
        due("10 the fifth SINGER", Teller.with(FLOOR + bars("9") + "singer 1 8 9;".repeat(4) + "singer 9 9 1;").rota(0, 0), 4);
    }

    // Term 3: FEW from 0 to 5, FAR from 0 to 8, MUTE from none to all
    private static void fewAndFar() {
        StringBuilder singers = new StringBuilder();
        for (int many = 1; many <= 5; many++) {
            singers.append("singer " + many + " " + many + " 4;");
            LullabyHouse x = Teller.with(FLOOR + bars("12345".substring(0, many)) + singers);
            due("11 FEW of " + many, x.few(0, false), many);
            due("11 who of " + many, x.few(0, true), (1 << many) - 1);
            due("21 SPARE of " + many, x.spare(0, 0), 0);
        }
        for (int far = 0; far <= 8; far++) {
            String house = FLOOR + bars("2".repeat(far) + "9".repeat(8 - far)) + "singer 1 8 20;singer 2 7 20;";
            due("12 FAR", Teller.with(house).far(0, false), far);
            due("12 MUTE", Teller.with(house).far(0, true), 255 & -1 << far);
        }
        for (int breath = 1; breath <= 20; breath++) {
            LullabyHouse x = Teller.with(FLOOR + "bar 5 4 0 0;" + REST + "bar 5 3 0 0;singer 5 5 4;singer 5 5 " + breath + ";");
            due("11 FEW, BREATH " + breath, x.few(0, false), breath >= 7 ? 1 : breath >= 3 ? 2 : NONE);
            due("11 who, BREATH " + breath, x.few(0, true), breath >= 7 ? 2 : breath >= 3 ? 3 : NONE);
            due("21 SPARE, BREATH " + breath, x.spare(0, 0), breath >= 7 ? 1 : 0);
            due("22 EASE, BREATH " + breath, x.ease(0, NONE), breath >= 3 ? 4 : NONE);
            due("22 EASE, who, BREATH " + breath, x.ease(0, 2), breath >= 3 ? 1 : NONE);
        }
        LullabyHouse ends = Teller.with(FLOOR + bars("5") + "singer 5 5 1;" + "singer 1 1 1;".repeat(3) + "singer 5 5 1;");
        due("21 SPARE, the first or the last will do", ends.spare(0, 0), 31);
        LullabyHouse fifth = Teller.with(FLOOR + bars("5") + "singer 1 1 1;".repeat(4) + "singer 5 5 1;");
        due("21 SPARE, all but the last", fifth.spare(0, 0), 15);
        LullabyHouse last = Teller.with(FLOOR + bars("102") + "singer 1 1 9;singer 2 2 9;singer 1 2 9;");
        due("11 the fewest, not the first", last.few(0, false), 1);
        due("11 the fewest, not the first, who", last.few(0, true), 4);
        LullabyHouse none = Teller.with(FLOOR + bars("11111111"));
        due("12 FAR without SINGERS", none.far(0, false), 0);
        due("12 MUTE without SINGERS", none.far(0, true), 255);
        due("12 RESTS, too, without SINGERS", Teller.with(FLOOR + bars("0010")).far(0, false), 2);
    }

    // Term 3: WAKES "in least terms", RISK from 0 to 10
    private static void wakes() {
        for (int risk = 0; risk <= 10; risk++) {
            LullabyHouse x = Teller.with("floor 0 1;bar 1 1 0 " + risk + ";");
            int divisor = BigInteger.valueOf(risk).gcd(BigInteger.TEN).intValue();
            fraction("13 RISK " + risk, x.wakes(0, false), x.wakes(0, true), risk / divisor, 10 / divisor);
            fraction("24 RISK " + risk, x.sleep(0, 0, false), x.sleep(0, 0, true), (10 - risk) / divisor, 10 / divisor);
            fraction("25 RISK " + risk, x.census(0, 1, false), x.census(0, 1, true), risk / divisor, 10 / divisor);
        }
        LullabyHouse all = Teller.with(FLOORS + "bar 1 1 0 10;".repeat(8));
        fraction("13 all of 54", all.wakes(0, false), all.wakes(0, true), 54, 1);
        fraction("25 all of 54", all.census(0, 54, false), all.census(0, 54, true), 1, 1);
        LullabyHouse eight = Teller.with(FLOORS + "bar 1 1 0 9;".repeat(8));
        fraction("13 eight of RISK 9", eight.wakes(0, false), eight.wakes(0, true), 54L * 99999999 / 2, 50000000);
        fraction("24 eight of RISK 9", eight.sleep(0, 5, false), eight.sleep(0, 5, true), 1, 100000000);
        fraction("13 no BARS", Teller.with(FLOORS).wakes(0, false), Teller.with(FLOORS).wakes(0, true), 0, 1);
    }

    // Term 3: CHANGE "(less than it is)", "of several the first by numbers"
    private static void change() {
        String low = "bar 1 1 0 10;";
        String high = "bar 1 1 1 0;";
        String floors = "floor 0 1;floor 0 1;";
        due("14 no BARS", Teller.with(floors).change(0), NONE);
        due("14 one BAR", Teller.with(floors + low).change(0), NONE);
        due("14 of one FLOOR", Teller.with(floors + low + low).change(0), NONE);
        due("14 the first two", Teller.with(floors + low + high).change(0), 1);
        due("14 more by it", Teller.with(floors + "bar 1 1 1 10;bar 1 1 0 0;").change(0), NONE);
        due("14 the same by it", Teller.with(floors + "bar 1 1 1 5;bar 1 1 0 5;").change(0), NONE);
        due("14 the last two", Teller.with(floors + "bar 1 1 0 0;".repeat(6) + low + high).change(0), 67);
        due("14 the first and the last", Teller.with(floors + low + "bar 1 1 0 0;".repeat(6) + high).change(0), 7);
        due("14 of several the first", Teller.with(floors + low + high.repeat(7)).change(0), 1);
        due("14 of several the first", Teller.with(floors + high.repeat(7) + low).change(0), 7);
        due("14 the least of all", Teller.with("floor 0 1;floor 0 9;floor 0 9;" + low + high + "bar 1 1 2 0;").change(0), 2);
    }

    // Term 3: "TUSSLE of n, 0 .. 4", "(8: none)", "the least that is best"
    private static void tussles() {
        LullabyHouse free = Teller.with("floor 0 9;" + "bar 1 4 0 0;".repeat(8));
        int[] worth = {0, 4, 4, 8, 8};
        for (int n = -2; n <= 6; n++) {
            boolean can = n >= 0 && n <= 4;
            due("15 tussle(0, " + n + ", false)", free.tussle(0, n, false), can ? worth[n] : -999);
            due("15 tussle(0, " + n + ", true)", free.tussle(0, n, true), !can ? -999 : n == 0 ? NONE : 0);
        }
        LullabyHouse last = Teller.with("floor 0 9;" + REST.repeat(7) + "bar 1 1 0 0;");
        due("15 the last BAR", last.tussle(0, 1, true), 7);
        due("15 none is left", last.tussle(0, 3, false), 1);
        for (int rent = 0; rent <= 20; rent++) {
            LullabyHouse x = Teller.with("floor " + rent + " 1;bar 1 4 0 0;");
            due("15 RENT " + rent + ", n 1", x.tussle(0, 1, false), 4);
            due("15 RENT " + rent + ", n 2", x.tussle(0, 2, false), Math.max(0, 4 - rent));
            due("15 RENT " + rent + ", n 2, first", x.tussle(0, 2, true), rent <= 4 ? 0 : 8);
            due("15 RENT " + rent + ", n 3", x.tussle(0, 3, false), 4);
        }
        LullabyHouse twoBars = Teller.with("floor 0 1;bar 1 4 0 0;bar 1 1 0 0;");
        due("15 each is skipped once, n 3", twoBars.tussle(0, 3, false), 5);
        due("15 each is skipped once, n 4", twoBars.tussle(0, 4, false), 5);
        LullabyHouse twoFloors = Teller.with("floor 20 1;floor 0 1;bar 1 4 1 0;bar 1 4 0 0;");
        due("15 AWAKE by what is skipped alone", twoFloors.tussle(0, 2, false), 4);
        due("15 AWAKE by what is skipped alone, first", twoFloors.tussle(0, 2, true), 0);
        LullabyHouse twoRents = Teller.with("floor 1 1;floor 3 1;bar 1 4 0 0;bar 1 4 0 0;");
        due("15 each is let off once", twoRents.tussle(0, 4, false), 4);
        due("15 each is let off once, first", twoRents.tussle(0, 4, true), 0);
        LullabyHouse ends = Teller.with("floor 3 1;bar 1 4 0 0;bar 1 4 0 0;");
        due("15 the house is last, n 2", ends.tussle(0, 2, false), 1);
        due("15 the landlord is last, n 3", ends.tussle(0, 3, false), 5);
        due("15 nobody, first, behind others", ends.tussle(0, 0, true), NONE);
        LullabyHouse stays = Teller.with("floor 5 1;floor 0 1;bar 1 4 0 0;bar 1 4 1 0;");
        due("15 what was AWAKE stays so, n 4", stays.tussle(0, 4, false), 4);
        LullabyHouse above = Teller.with("floor 20 1;floor 3 1;bar 1 4 1 0;");
        due("15 only FLOORS that are AWAKE", above.tussle(0, 2, false), 1);
        due("15 a FLOOR pays no more but once", above.tussle(0, 4, false), 1);
    }

    // Term 3: TUNES, "no two NOTES .. are more than STEP apart"
    private static void steps() {
        for (int step = 0; step <= 9; step++) {
            for (int note = 1; note <= 9; note++) {
                LullabyHouse x = Teller.with(FLOOR + bars(note + "1") + "wall 1;step " + step + ";");
                int least = Math.max(1, note - step);
                int most = Math.min(9, note + step);
                String name = "16 STEP " + step + " from " + note;
                due(name, x.tunes(0, 0), most - least + 1);
                due(name + ", first", x.tunes(0, 10), least);
                due(name + ", SURE", x.tunes(0, 20), least == most ? least : NONE);
                LullabyHouse told = Teller.with(FLOOR + bars(note + "19") + "wall 2;step " + step + ";");
                boolean can = note - 1 <= step;
                due(name + ", told", told.tunes(0, 0), can ? Math.min(9, 1 + step) : 0);
                due(name + ", told, first", told.tunes(0, 10), can ? 1 : NONE);
                due(name + ", told, SURE", told.tunes(0, 20), can && step == 0 ? 1 : NONE);
            }
        }
    }

    // Promise 16: "NONE of both: there are no TUNES", "-2: not so many WALLED ones"
    private static void walls() {
        StringBuilder walls = new StringBuilder();
        int rows = 1;
        for (int many = 0; many <= 8; many++) {
            LullabyHouse x = Teller.with(FLOOR + bars("99999999") + walls);
            due("16 " + many + " WALLED", x.tunes(0, 0), rows);
            for (int k = 0; k < 10; k++) {
                due("16 the " + k + "-th of " + many, x.tunes(0, 10 + k), k < many ? 1 : -2);
                due("16 SURE of the " + k + "-th of " + many, x.tunes(0, 20 + k), k < many ? NONE : -2);
            }
            LullabyHouse sure = Teller.with(FLOOR + bars("99999999") + walls + "step 0;");
            due("16 STEP 0, " + many + " WALLED", sure.tunes(0, 0), many == 8 ? 9 : 1);
            due("16 STEP 0, the last", sure.tunes(0, 9 + many), many == 0 ? -2 : many == 8 ? 1 : 9);
            due("16 STEP 0, the last, SURE", sure.tunes(0, 19 + many), many == 0 ? -2 : many == 8 ? NONE : 9);
            walls.append("wall " + many + ";");
            rows *= 9;
        }
        LullabyHouse none = Teller.with(FLOOR + bars("919") + "wall 2;step 7;");
        due("16 no TUNES", none.tunes(0, 0), 0);
        due("16 no TUNES, first", none.tunes(0, 10), NONE);
        due("16 no TUNES, not so many", none.tunes(0, 11), -2);
        due("16 no TUNES, SURE", none.tunes(0, 20), NONE);
        due("16 no TUNES, not so many", none.tunes(0, 21), -2);
        due("16 too far from both", Teller.with(FLOOR + bars("919") + "wall 1;step 0;").tunes(0, 0), 1);
        due("16 too far from both", Teller.with(FLOOR + bars("911") + "wall 1;step 3;").tunes(0, 0), 0);
        due("16 just near to both", Teller.with(FLOOR + bars("911") + "wall 1;step 4;").tunes(0, 20), 5);
    }

    // Term 4: how many FIT, from none to six; the k-th; SURE; ASK
    private static void fits() {
        String house = FLOORS + "bar 5 1 0 0;bar 5 1 1 0;bar 5 1 2 0;bar 5 1 3 0;bar 5 1 4 0;" + "singer 5 5 1;".repeat(5);
        LullabyHouse all = morning(house, "");
        due("18 all six", all.fits(0, 0, 0), 6);
        due("18 not SURE", all.fits(0, 0, 1), NONE);
        due("18 ASK, the least", all.fits(0, 0, 2), 0);
        for (int k = 0; k < 8; k++) {
            due("18 the " + k + "-th", all.fits(0, 0, 10 + k), k < 6 ? k : -2);
        }
        for (int f = 0; f < 6; f++) {
            LullabyHouse x = morning(house, "dreamt " + f + ";");
            due("18 DREAMT " + f, x.fits(0, 0, 0), f < 5 ? 1 : 0);
            due("18 DREAMT " + f + ", SURE", x.fits(0, 0, 1), f < 5 ? f : NONE);
            due("18 DREAMT " + f + ", ASK", x.fits(0, 0, 2), f < 5 ? 0 : NONE);
            due("18 DREAMT " + f + ", first", x.fits(0, 0, 10), f < 5 ? f : -2);
            due("18 DREAMT " + f + ", a second", x.fits(0, 0, 11), -2);
            due("18 CALM " + f, morning(house, "calm " + f + ";").fits(0, 0, 0), f < 5 ? 5 : 6);
        }
        String eight = "calm 0;calm 1;calm 2;calm 3;calm 4;calm 5;calm 0;";
        due("18 8 FACTS, nobody", morning(house, eight + "calm 1;").fits(0, 0, 1), 5);
        due("18 8 FACTS, the last counts", morning(house, eight + "dreamt 1;").fits(0, 0, 0), 0);
        due("18 ASK, a later FLOOR", morning(house, "calm 0;calm 1;calm 2;").fits(0, 0, 2), 3);
        due("18 all of it CALM, ASK", morning(house, eight).fits(0, 0, 2), 0);
        LullabyHouse three = morning(FLOORS + "bar 9 1 0 0;bar 9 1 1 0;bar 0 1 0 0;bar 9 1 1 0;singer 9 9 1;singer 9 9 2;", "");
        due("18 ASK, nobody counts, too", three.fits(0, 0, 2), 0);
        LullabyHouse halves = morning(FLOORS + "bar 5 1 0 0;bar 5 1 1 0;bar 5 1 1 0;" + "singer 5 5 1;".repeat(3), "");
        due("18 ASK, two by two", halves.fits(0, 0, 2), 1);
        due("18 no FLOORS, ASK", morning("singer 1 1 1;", "").fits(0, 0, 2), NONE);
        due("18 no FLOORS, how many", morning("singer 1 1 1;", "").fits(0, 0, 0), 2);
    }

    private static long following(long seed) {
        return (seed * 1103515245L + 12345L) & 0xffffffffL;
    }

    // Term 4: "(of 32 bits)", "shifted right by 16 without sign", "0 to 60"; "(Without SINGERS 0 to 5 draw no more"
    private static void draws() {
        LullabyHouse x = Teller.with("floor 3 2;");
        int[] seeds = {0, 1, -1, 2, -2, 12345, 1 << 16, 1 << 31, 1 << 30, 0xffff0000, 0x7fff0000, Integer.MAX_VALUE};
        for (int seed : seeds) {
            long now = seed & 0xffffffffL;
            int nights = 0;
            for (int n = 0; n <= 60; n++) {
                if (n % 10 == 0) {
                    due("19 nights by " + seed + ", " + n, x.drawn(0, seed, n, 0), nights);
                    due("19 paid by " + seed + ", " + n, x.drawn(0, seed, n, 4), 3 * nights);
                }
                now = following(now);
                nights += (now >> 16) % 8 == 7 ? 1 : 0;
            }
            due("19 by " + seed + ", -1", x.drawn(0, seed, -1, 0), -2);
            due("19 by " + seed + ", 61", x.drawn(0, seed, 61, 0), -2);
        }
    }

    // Term 4: "6: skip; 7: night; each, if it may"
    private static void drawsWithBars() {
        for (int seed = -20; seed <= 20; seed++) {
            LullabyHouse x = Teller.with("floor 3 2;floor 1 1;bar 1 1 1 0;bar 1 1 0 0;");
            long now = seed & 0xffffffffL;
            int next = 0;
            int woken = 0;
            for (int n = 1; n <= 10; n++) {
                int kind = (int) ((now = following(now)) >> 16) % 8;
                woken += kind == 7 ? 3 : 0;
                next = kind == 7 ? 0 : kind == 6 ? Math.min(2, next + 1) : next;
                due("19 the next BAR by " + seed + ", " + n, x.drawn(0, seed, n, 1), next == 2 ? NONE : next);
                due("19 AWAKE by " + seed + ", " + n, x.drawn(0, seed, n, 2), next == 0 ? 0 : next == 1 ? 2 : 3);
                due("19 WOKEN by " + seed + ", " + n, x.drawn(0, seed, n, 3), woken);
            }
        }
    }

    // Term 4: "5: a number below 2: 0 cold, 1 well, then a SINGER, below SINGERS"
    private static void drawsWithSingers() {
        for (int singers = 1; singers <= 5; singers++) {
            LullabyHouse x = Teller.with("floor 3 2;" + "singer 1 1 1;".repeat(singers));
            for (int seed = -3; seed <= 3; seed++) {
                long now = seed * 715827883L & 0xffffffffL;
                int start = (int) now;
                int nights = 0;
                int colds = 0;
                for (int n = 0; n < 60; n++) {
                    int kind = (int) ((now = following(now)) >> 16) % 8;
                    boolean well = kind == 5 && ((now = following(now)) >> 16) % 2 == 1;
                    int who = kind > 5 ? 0 : (int) (((now = following(now)) >> 16) % singers);
                    colds = kind != 5 ? colds : well ? colds & ~(1 << who) : colds | 1 << who;
                    nights += kind == 7 ? 1 : 0;
                }
                due("19 nights by " + start + " of " + singers, x.drawn(0, start, 60, 0), nights);
                due("19 colds by " + start + " of " + singers, x.drawn(0, start, 60, 6), colds);
            }
        }
    }

    // Term 5: "LOAN of n, 0 .. 9", "CURE: .. 0 .. 20", "(NONE: not by 20)"
    private static void loans() {
        String alone = FLOOR + ("bar 5 4 0 0;" + REST).repeat(4);
        for (int breath = 1; breath <= 20; breath++) {
            LullabyHouse x = Teller.with(alone + "singer 5 5 " + breath + ";");
            due("21 CURE of " + breath, x.spare(0, 2), Math.max(0, 16 - breath));
            due("31 HIRE of " + breath, x.hire(0), breath >= 16 ? 0 : 16 - breath / 4 * 4);
            for (int n = 0; n <= 9; n++) {
                int far = Math.min(4, (breath + n) / 4);
                due("21 LOAN of " + n + " of " + breath, x.spare(0, 10 + n), 2 * far);
            }
            due("21 what 9", x.spare(0, 9), -2);
            due("21 what 20 is CATCH", x.spare(0, 20), breath >= 16 ? 1 : NONE);
        }
        String dreamers = FLOORS + "bar 9 1 5 0;bar 0 1 4 0;bar 9 1 3 0;bar 0 1 0 0;bar 9 1 5 0;bar 0 1 0 0;bar 7 1 0 0;singer 1 9 4;";
        due("21 CATCH, each FLOOR once", Teller.with(dreamers).spare(0, 20), 18);
        due("21 no CURE, nobody REACHES", Teller.with(FLOOR + "bar 5 1 0 0;singer 6 9 20;").spare(0, 2), NONE);
        due("21 no CURE, two one behind the other", Teller.with(FLOOR + bars("55") + "singer 5 5 20;").spare(0, 2), NONE);
        due("21 no CURE without SINGERS", Teller.with(FLOOR + bars("5")).spare(0, 2), NONE);
    }

    private static void ease() {
        for (int many = 2; many <= 5; many++) {
            LullabyHouse x = Teller.with(FLOOR + "bar 5 4 0 0;".repeat(8) + "singer 5 5 20;".repeat(many));
            int[] want = {16, 12, 8, 8};
            due("22 EASE of " + many, x.ease(0, NONE), want[many - 2]);
        }
        LullabyHouse one = Teller.with(FLOOR + ("bar 5 4 0 0;" + REST).repeat(4) + "singer 5 5 16;");
        due("22 all by one", one.ease(0, NONE), 16);
        int[] row = {0, 5, 0, 5, 0, 5, 0, 5, NONE};
        for (int k = 0; k < row.length; k++) {
            due("22 ease(0, " + k + ")", one.ease(0, k), row[k]);
        }
        LullabyHouse bound = Teller.with(FLOOR + "bar 5 4 0 0;".repeat(4) + "singer 5 5 20;" + "singer 5 5 4;".repeat(2));
        due("22 none longer than his BREATH", bound.ease(0, NONE), 8);
        LullabyHouse short4 = Teller.with(FLOOR + "bar 5 4 0 0;".repeat(4) + "singer 5 5 20;" + "singer 5 5 4;singer 5 5 3;");
        due("22 one BREATH less", short4.ease(0, NONE), NONE);
        LullabyHouse least = Teller.with(FLOOR + bars("5") + "singer 5 5 1;");
        due("22 1 is enough", least.ease(0, NONE), 1);
    }

    // Term 5: ROOF of each BAR, QUIETEST "of several the first", HOUSEFUL
    private static void roofs() {
        LullabyHouse x = Teller.with(FLOORS + "bar 1 1 0 0;bar 1 1 5 0;bar 1 1 1 0;bar 1 1 4 0;bar 1 1 2 0;bar 1 1 3 0;"
            + "bar 1 1 5 0;bar 0 1 5 0;");
        int[] roof = {54, 9, 45, 18, 36, 27, 9, 0, -2, -2};
        for (int b = 0; b < roof.length; b++) {
            due("23 ROOF of " + b, x.roof(0, 10 + b), roof[b]);
        }
        due("23 QUIETEST, the first", x.roof(0, 0), 1);
        due("23 54 PEOPLE", x.roof(0, 1), 54);
        due("23 RENTS of 120", x.roof(0, 2), 120);
        due("23 RENTS of 0", Teller.with("floor 0 1;").roof(0, 2), 0);
        due("23 the first is QUIETEST", Teller.with("floor 0 1;floor 0 1;bar 1 1 1 0;bar 1 1 0 0;").roof(0, 0), 0);
        due("23 of all alike the first", Teller.with("floor 0 1;" + "bar 1 1 0 0;".repeat(8)).roof(0, 0), 0);
        due("23 the last is QUIETEST", Teller.with("floor 0 1;floor 0 1;" + "bar 1 1 0 0;".repeat(7) + "bar 1 1 1 0;").roof(0, 0), 7);
        due("23 1 of PEOPLE", Teller.with("floor 0 1;bar 1 1 0 0;").roof(0, 10), 1);
    }

    private static void climb(String floors, int many, int where) {
        StringBuilder text = new StringBuilder(FLOORS);
        for (int i = 0; i < floors.length(); i++) {
            boolean rest = floors.charAt(i) == '-';
            text.append("bar " + (rest ? "0 1 0" : "1 1 " + floors.charAt(i)) + " 0;");
        }
        LullabyHouse x = Teller.with(text.toString());
        due("23 CLIMB of " + floors, x.roof(0, 3), many);
        due("23 CLIMB of " + floors + ", where", x.roof(0, 4), where);
    }

    // Term 5: CLIMB, "none a REST", "not below", "the first of such rows"
    private static void climbs() {
        climb("", 0, NONE);
        climb("-", 0, NONE);
        climb("--------", 0, NONE);
        climb("3", 1, 0);
        climb("-3", 1, 1);
        climb("33333333", 8, 0);
        climb("00123455", 8, 0);
        climb("54321000", 3, 5);
        climb("5432100", 2, 5);
        climb("543210", 1, 0);
        climb("01-01-01", 2, 0);
        climb("1-01-012", 3, 5);
        climb("10123210", 4, 1);
        climb("-------0", 1, 7);
    }

    private static void echo(String notes, int many, int where) {
        LullabyHouse x = Teller.with(FLOOR + bars(notes));
        due("23 ECHO of " + notes, x.roof(0, 5), many);
        due("23 ECHO of " + notes + ", where", x.roof(0, 6), where);
    }

    // Term 5: ECHO, "twice, not over each other", "where it first begins"
    private static void echoes() {
        echo("", 0, NONE);
        echo("1", 0, NONE);
        echo("11", 1, 0);
        echo("12", 0, NONE);
        echo("111", 1, 0);
        echo("1111", 2, 0);
        echo("12345678", 0, NONE);
        echo("12345677", 1, 6);
        echo("12345671", 1, 0);
        echo("12341234", 4, 0);
        echo("1231231", 3, 0);
        echo("11111111", 4, 0);
        echo("1111111", 3, 0);
        echo("91231238", 3, 1);
        echo("98127712", 2, 2);
        echo("00", 1, 0);
        LullabyHouse x = Teller.with(FLOOR + "bar 1 1 0 0;bar 1 2 0 0;");
        due("23 ECHO, by LENGTH, too", x.roof(0, 5), 0);
        LullabyHouse end = Teller.with(FLOOR + "bar 1 1 0 0;bar 1 2 0 0;bar 1 1 0 0;bar 1 3 0 0;");
        due("23 ECHO, by each LENGTH", end.roof(0, 5), 1);
        LullabyHouse both = Teller.with(FLOOR + "bar 1 1 0 0;bar 1 2 0 0;bar 1 1 0 0;bar 1 2 0 0;");
        due("23 ECHO, each LENGTH the same", both.roof(0, 5), 2);
        LullabyHouse y = Teller.with(FLOORS + "bar 1 1 0 0;bar 1 1 5 9;");
        due("23 ECHO, not by FLOOR or RISK", y.roof(0, 5), 1);
    }

    // Term 5: "CENSUS of n, 0 .. 54", SLEEP of each FLOOR
    private static void sleepAndCensus() {
        LullabyHouse x = Teller.with(FLOORS + "bar 1 1 0 5;bar 1 1 5 5;");
        for (int f = -1; f <= 6; f++) {
            boolean there = f >= 0 && f < 6;
            due("24 SLEEP of " + f, x.sleep(0, f, false), there ? 1 : NONE);
            due("24 SLEEP of " + f + ", under", x.sleep(0, f, true), !there ? NONE : f == 5 ? 4 : 2);
        }
        for (int n = -1; n <= 56; n++) {
            boolean can = n >= 0 && n <= 54;
            due("25 CENSUS of " + n, x.census(0, n, false), !can ? NONE : n == 0 ? 1 : n <= 9 ? 3 : 1);
            due("25 CENSUS of " + n + ", under", x.census(0, n, true), !can ? NONE : n == 0 ? 1 : n <= 9 ? 4 : 2);
        }
        LullabyHouse few = Teller.with("floor 0 9;floor 0 1;bar 1 1 0 5;");
        for (int n = 9; n <= 12; n++) {
            due("25 CENSUS of " + n + " of 10", few.census(0, n, false), n <= 10 ? 1 : 0);
            due("25 CENSUS of " + n + " of 10, under", few.census(0, n, true), n <= 10 ? 2 : 1);
        }
    }

    // Term 5: "MOVE of a FLOOR, n, 0 .. 5", "(or less, below 0)"
    private static void moves() {
        LullabyHouse x = Teller.with(FLOORS + "bar 1 1 0 0;".repeat(7) + "bar 0 1 0 0;");
        LullabyHouse up = Teller.with(FLOORS + "bar 1 1 5 0;".repeat(8));
        for (int n = -2; n <= 7; n++) {
            boolean can = n >= 0 && n < 6;
            due("26 MOVE of 0, " + n, x.move(0, 0, n), can ? -7 * 9 * n : -999);
            due("26 MOVE of 5, " + n, up.move(0, 5, n), can ? 8 * 9 * (5 - n) : -999);
            due("26 MOVE of " + n + ", 0", up.move(0, n, 0), !can ? -999 : n == 5 ? 360 : 0);
        }
        LullabyHouse two = Teller.with("floor 0 1;floor 0 1;bar 1 1 0 0;");
        due("26 the last FLOOR", two.move(0, 0, 1), -1);
        due("26 no such FLOOR n", two.move(0, 0, 2), -999);
        due("26 no such FLOOR", two.move(0, 2, 0), -999);
    }

    // Promise 27: "NONE: one of them is not there"
    private static void ranges() {
        StringBuilder singers = new StringBuilder();
        for (int many = 0; many <= 5; many++) {
            LullabyHouse x = Teller.with(singers.toString());
            for (int bits = -3; bits <= 66; bits++) {
                boolean there = bits >= 0 && bits < 1 << many;
                due("27 RANGE of " + bits + " of " + many, x.range(0, bits), there ? Integer.bitCount(bits) : NONE);
            }
            singers.append("singer " + (2 * many + 1) + " " + (2 * many + 1) + " 1;");
        }
        due("27 all NOTES, each once", Teller.with(SINGERS).range(0, 31), 9);
    }

    // Term 5: "CHOIR: the fewest SINGERS", from 0 to 5, and by none
    private static void choirs() {
        StringBuilder singers = new StringBuilder();
        for (int many = 0; many <= 5; many++) {
            LullabyHouse x = Teller.with(FLOOR + bars("12345".substring(0, many)) + singers);
            due("28 CHOIR of " + many, x.choir(0, false), many);
            due("28 CHOIR of " + many + ", who", x.choir(0, true), (1 << many) - 1);
            LullabyHouse more = Teller.with(FLOOR + bars("12345".substring(0, many) + "9") + singers);
            due("28 by none of " + many, more.choir(0, false), NONE);
            due("28 by none of " + many + ", who", more.choir(0, true), NONE);
            singers.append("singer " + (many + 1) + " " + (many + 1) + " 1;");
        }
        due("28 of several the least", Teller.with(FLOOR + bars("5") + SINGERS).choir(0, true), 1);
        LullabyHouse last = Teller.with(FLOOR + bars("19") + "singer 1 8 1;singer 2 9 1;singer 1 9 1;");
        due("28 the fewest, not the first", last.choir(0, false), 1);
        due("28 the fewest, not the first, who", last.choir(0, true), 4);
        due("28 a breath does not count", Teller.with(FLOOR + "bar 5 4 0 0;bar 5 4 0 0;singer 5 5 1;").choir(0, false), 1);
    }

    // Term 5: FIRST, HOARSE, WORST "(none over: none)", CALMS
    private static void afterwards() {
        String house = FLOORS + "bar 5 1 5 0;bar 5 1 4 0;bar 5 1 3 0;singer 5 5 20;singer 5 5 20;singer 1 4 20;";
        after(house, "", NONE, NONE, NONE, 0);
        after(house, "sing 0;", NONE, 0, NONE, 0);
        after(house, "sing 2;", 0, 2, NONE, 0);
        after(house, "cold 2;well 2;skip;skip;sing 2;", 4, 2, NONE, 0);
        after(house, "sing 0;sing 1;sing 0;night;", NONE, 0, 0, 1);
        after(house, "sing 1;sing 0;skip;night;sing 1;", NONE, 1, 0, 0);
        after(house, "sing 1;sing 0;", NONE, 0, NONE, 0);
        after(house, "night;night;", NONE, NONE, 0, 0);
        after(house, "skip;sing 0;sing 1;night;night;skip;", NONE, 0, 1, 0);
        after(house, "sing 0;sing 0;sing 2;night;", NONE, 0, NONE, 0);
        after(house, "night;".repeat(39) + "sing 2;", 39, 2, 0, 0);
        after(house, "skip;sing 0;sing 1;night;".repeat(9) + "skip;skip;skip;night;", NONE, 0, 9, 0);
        after("floor 0 1;", "night;".repeat(40), NONE, NONE, 0, 40);
    }

    private static void after(String house, String deeds, int... want) {
        LullabyHouse x = night(house, deeds);
        for (int what = -1; what <= 5; what++) {
            due("29 '" + deeds + "', what " + what, x.after(0, 0, what), what < 0 || what > 3 ? -2 : want[what]);
        }
    }

    // Term 5: "ODDS of a SINGER, 0 .. 5"
    private static void odds() {
        for (int many = 0; many <= 5; many++) {
            LullabyHouse x = morning(FLOOR + "singer 1 1 1;".repeat(many), "");
            LullabyHouse none = morning(FLOOR + "singer 1 1 1;".repeat(many), "dreamt 0;");
            for (int s = -2; s <= 7; s++) {
                boolean there = s == 5 || s >= 0 && s < many;
                due("30 ODDS of " + s + " of " + many, x.odds(0, 0, s, false), there ? 1 : NONE);
                due("30 ODDS of " + s + " of " + many + ", under", x.odds(0, 0, s, true), there ? many + 1 : NONE);
                due("30 nothing FITS", none.odds(0, 0, s, false), NONE);
                due("30 nothing FITS, under", none.odds(0, 0, s, true), NONE);
            }
        }
        LullabyHouse one = morning(FLOOR + bars("5") + "singer 5 5 1;singer 5 5 1;", "dreamt 0;");
        fraction("30 he alone", one.odds(0, 0, 0, false), one.odds(0, 0, 0, true), 1, 1);
        fraction("30 not he", one.odds(0, 0, 1, false), one.odds(0, 0, 1, true), 0, 1);
        fraction("30 not nobody", one.odds(0, 0, 5, false), one.odds(0, 0, 5, true), 0, 1);
    }

    // Term 6: "HIRE: the least BREATH, 0 .. 20", "behind all others", "(0: there is one without)"
    private static void hire() {
        for (int length = 1; length <= 4; length++) {
            for (int many = 0; many <= 4; many++) {
                String house = FLOOR + ("bar 9 " + length + " 0 0;" + REST).repeat(many);
                for (int singers = 0; singers <= 5; singers++) {
                    due("31 HIRE", Teller.with(house + "singer 1 8 20;".repeat(singers)).hire(0), length * many);
                }
            }
        }
        due("31 by none", Teller.with(FLOOR + bars("55")).hire(0), NONE);
        due("31 by none", Teller.with(FLOOR + bars("55") + "singer 1 4 20;".repeat(5)).hire(0), NONE);
        due("31 with another", Teller.with(FLOOR + bars("15") + "singer 1 1 1;").hire(0), 1);
        due("31 NOTES 1 and 9", Teller.with(FLOOR + bars("109")).hire(0), 2);
    }

    // Term 6: "SHIFT of d, -8 .. 8", TUNED "of several that nearest to 0, of two so that above 0"
    private static void shifts() {
        LullabyHouse low = Teller.with(FLOOR + bars("10") + "singer 9 9 1;");
        LullabyHouse high = Teller.with(FLOOR + bars("09") + "singer 1 1 1;");
        for (int d = -10; d <= 10; d++) {
            boolean can = d >= -8 && d <= 8;
            due("32 SHIFT of " + d, low.shift(0, d), !can ? NONE : d == 8 ? 1 : 0);
            due("32 SHIFT of " + d, high.shift(0, d), !can ? NONE : d == -8 ? 1 : 0);
        }
        due("33 TUNED by 8", low.tuned(0), 8);
        due("33 TUNED by -8", high.tuned(0), -8);
        due("33 of two above 0", Teller.with(FLOOR + bars("5") + "singer 1 1 1;singer 9 9 1;").tuned(0), 4);
        due("33 nearest to 0", Teller.with(FLOOR + bars("5") + "singer 2 2 1;singer 9 9 1;").tuned(0), -3);
        due("33 most", Teller.with(FLOOR + bars("556") + "singer 9 9 1;singer 6 6 1;").tuned(0), 1);
        due("33 0 by none", Teller.with(FLOOR + bars("5")).tuned(0), 0);
        due("33 0 by all", Teller.with(FLOOR + bars("5") + SINGERS).tuned(0), 0);
        LullabyHouse all = Teller.with(FLOOR + bars("12345678") + SINGERS);
        due("32 as many as may be", all.shift(0, 1), 8);
        due("32 NOTES beyond 9 REACHES nobody", all.shift(0, 2), 7);
        due("32 NOTES below 1 REACHES nobody", all.shift(0, -1), 7);
        due("32 the last NOTE", all.shift(0, 8), 1);
    }

    // Term 6: "LANDING: .. of several the least (no FLOORS: none)"
    private static void landings() {
        for (int f = 0; f < 6; f++) {
            LullabyHouse x = Teller.with(FLOORS + "bar 1 1 " + f + " 0;");
            due("34 LANDING", x.landing(0, false), f);
            due("34 how many", x.landing(0, true), 1);
            LullabyHouse all = Teller.with(FLOORS + ("bar 1 1 " + f + " 0;").repeat(8));
            due("34 LANDING of all", all.landing(0, false), f);
            due("34 how many, all", all.landing(0, true), 8);
        }
        LullabyHouse even = Teller.with(FLOORS + "bar 1 1 5 0;bar 1 1 5 0;bar 1 1 4 0;bar 1 1 4 0;bar 0 1 3 0;bar 0 1 3 0;bar 0 1 3 0;");
        due("34 of several the least", even.landing(0, false), 4);
        due("34 how many", even.landing(0, true), 2);
        due("34 no BARS", Teller.with(FLOORS).landing(0, false), 0);
        due("34 no BARS, how many", Teller.with(FLOORS).landing(0, true), 0);
    }
}
