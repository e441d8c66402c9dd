import java.util.ArrayList;
import java.util.Collections;
import java.util.List;
import java.util.Random;

/** What a call answers does not hang on what was asked before it: only what was told counts. */
public final class OrderTest {
    private static final String[] HOUSES = {
        "floor 3 2;floor 6 5;bar 4 1 0 3;bar 4 1 1 5;bar 8 2 0 0;singer 2 6 2;singer 4 9 3;singer 1 9 1;wall 1;step 4;",
        "floor 1 2;floor 9 9;floor 2 1;bar 0 1 1 4;bar 9 4 1 1;bar 3 2 2 9;bar 9 1 0 2;singer 1 9 20;singer 1 3 9;"
            + "singer 8 9 5;wall 0;wall 2;step 6;",
        "floor 1 2;bar 9 4 0 1;singer 1 8 20;wall 0;",
        "floor 20 9;floor 20 9;floor 20 9;floor 20 9;floor 20 9;floor 20 9;bar 1 4 5 9;bar 9 4 4 9;bar 0 4 3 9;bar 5 4 2 9;"
            + "bar 5 4 1 9;bar 5 4 0 9;bar 5 1 3 5;bar 1 1 5 1;singer 1 9 20;singer 1 5 9;singer 5 9 20;singer 5 5 9;"
            + "singer 1 9 6;wall 7;step 1;",
        ""};
    private static final String[] NIGHTS = {
        "sing 0;sing 1;cold 1;night;sing 1;sing 2;sing 1;night;sing 0;skip;sing 0;night;",
        "skip;night;night;cold 0;sing 0;", "cold 2;sing 2;sing 1;skip;night;", "night;sing 2;sing 2;night;", "night;", ""};
    private static final String[] MORNINGS = {"", "calm 0;", "dreamt 1;", "dreamt 0;", "calm 1;calm 0;", "dreamt 0;calm 1;calm 2;"};

    private interface Call {
        long on(LullabyHouse x);
    }

    private record Named(String name, Call call) {
    }

    private OrderTest() {
    }

    public static void main(String[] args) {
        for (int seed = 0; seed < 200; seed++) {
            Random random = new Random(seed);
            List<Named> calls = calls();
            Collections.shuffle(calls, random);
            String[] texts = {any(HOUSES, random), any(HOUSES, random), any(NIGHTS, random), any(NIGHTS, random),
                any(MORNINGS, random), any(MORNINGS, random)};
            asked("seed " + seed + ": ", texts, calls.subList(0, 150));
        }
        toldAnew();
        Check.end();
    }

    /** In the place of others, of which nothing is left: as much told as may be, then each text. */
    private static void toldAnew() {
        String most = "floor 20 9;".repeat(6) + "bar 9 4 5 10;".repeat(8) + "singer 1 9 20;".repeat(5)
            + "step 1;wall 0;wall 1;wall 2;wall 3;wall 4;wall 5;wall 6;wall 7;";
        for (String house : HOUSES) {
            for (String nights : NIGHTS) {
                for (String mornings : MORNINGS) {
                    String[] texts = {house, house, nights, nights, mornings, mornings};
                    LullabyHouse x = told(new String[] {house, most, nights, "cold 1;".repeat(40), mornings, "dreamt 5;".repeat(8)});
                    for (int sort = 0; sort < 3; sort++) {
                        Check.due("4 in the place of another", Teller.tell(x, sort, 1, texts[2 * sort]), 1);
                    }
                    same("'" + house + "', '" + nights + "', '" + mornings + "': ", Answers.told(x), Answers.told(told(texts)));
                }
            }
        }
    }

    private static void same(String name, List<String> got, List<String> want) {
        for (int i = 0; i < want.size(); i++) {
            Check.due(name + got.get(i) + ", due is " + want.get(i), got.get(i).equals(want.get(i)), true);
        }
    }

    private static String any(String[] texts, Random random) {
        return texts[random.nextInt(texts.length)];
    }

    private static LullabyHouse told(String[] texts) {
        LullabyHouse x = new LullabyHouse();
        for (int k = 0; k < texts.length; k++) {
            Check.due("'" + texts[k] + "'", Teller.tell(x, k / 2, LullabyHouse.NONE, texts[k]), k % 2);
        }
        return x;
    }

    /** Each call on one object behind others (with all, fewer than 512), against the same call as an object's first. */
    private static void asked(String name, String[] texts, List<Named> calls) {
        LullabyHouse first = told(texts);
        LullabyHouse x = told(texts);
        for (Named one : calls) {
            LullabyHouse own = told(texts);
            Check.due(name + one.name, one.call.on(x), one.call.on(own));
        }
        same(name + "as at first, ", Answers.told(x), Answers.told(first));
    }

    private static void add(List<Named> calls, String name, Call call) {
        calls.add(new Named(name, call));
    }

    private static List<Named> calls() {
        List<Named> calls = new ArrayList<>();
        for (int house = 0; house < 2; house++) {
            ofSongs(calls, house);
            ofPeople(calls, house);
            for (int other = 0; other < 2; other++) {
                ofNightsAndMornings(calls, house, other);
            }
        }
        return calls;
    }

    private static void ofSongs(List<Named> calls, int h) {
        for (boolean way : new boolean[] {false, true}) {
            add(calls, "few " + h + " " + way, x -> x.few(h, way));
            add(calls, "far " + h + " " + way, x -> x.far(h, way));
            add(calls, "choir " + h + " " + way, x -> x.choir(h, way));
            add(calls, "landing " + h + " " + way, x -> x.landing(h, way));
            for (int n = 0; n < 5; n++) {
                int k = n;
                add(calls, "tussle " + h + " " + k + " " + way, x -> x.tussle(h, k, way));
                add(calls, "sung " + h + " " + k + " " + way, x -> x.sung(h, k, way));
            }
        }
        for (int n = -1; n < 8; n++) {
            int k = n;
            add(calls, "rota " + h + " " + k, x -> x.rota(h, k));
            add(calls, "ease " + h + " " + k, x -> x.ease(h, k));
            add(calls, "tunes " + h + " " + k, x -> x.tunes(h, 10 + k));
            add(calls, "sure " + h + " " + k, x -> x.tunes(h, 20 + k));
            add(calls, "shift " + h + " " + k, x -> x.shift(h, k));
            add(calls, "range " + h + " " + k, x -> x.range(h, k));
        }
        add(calls, "how many tunes " + h, x -> x.tunes(h, 0));
        add(calls, "hire " + h, x -> x.hire(h));
        add(calls, "tuned " + h, x -> x.tuned(h));
        for (int n = 0; n < 26; n++) {
            int what = n;
            add(calls, "spare " + h + " " + what, x -> x.spare(h, what));
            add(calls, "roof " + h + " " + what, x -> x.roof(h, what));
        }
    }

    private static void ofPeople(List<Named> calls, int h) {
        add(calls, "change " + h, x -> x.change(h));
        for (boolean under : new boolean[] {false, true}) {
            add(calls, "wakes " + h + " " + under, x -> x.wakes(h, under));
            for (int n = 0; n < 6; n++) {
                int k = n;
                add(calls, "sleep " + h + " " + k + " " + under, x -> x.sleep(h, k, under));
                add(calls, "census " + h + " " + k + " " + under, x -> x.census(h, 3 * k, under));
                add(calls, "move " + h + " " + k + " " + under, x -> x.move(h, k, under ? 1 : 0));
            }
        }
        for (int n = 0; n < 15; n++) {
            int what = n;
            add(calls, "drawn " + h + " " + what, x -> x.drawn(h, what, 40, what));
            add(calls, "drawn by none " + h + " " + what, x -> x.drawn(h, 1, 0, what));
        }
    }

    private static void ofNightsAndMornings(List<Named> calls, int h, int other) {
        String name = " " + h + " " + other + " ";
        add(calls, "stop" + name, x -> x.stop(h, other));
        for (int n = 0; n < 4; n++) {
            int k = n;
            add(calls, "after" + name + k, x -> x.after(h, other, k));
            add(calls, "fits" + name + k, x -> x.fits(h, other, k));
            add(calls, "the fitting" + name + k, x -> x.fits(h, other, 10 + k));
            add(calls, "odds" + name + k, x -> x.odds(h, other, 2 + k, false));
            add(calls, "odds, under" + name + k, x -> x.odds(h, other, 2 + k, true));
        }
        for (int n = 0; n < 15; n++) {
            int what = n;
            add(calls, "state behind none" + name + what, x -> x.state(h, other, 0, what));
            add(calls, "state" + name + what, x -> x.state(h, other, 4, what));
        }
    }
}
