import java.util.ArrayList;
import java.util.List;

/** What an object answers to all there is to ask, each row with its call, so that two objects can be compared. */
final class Answers {
    private final LullabyHouse x;
    private final List<String> rows = new ArrayList<>();

    private Answers(LullabyHouse x) {
        this.x = x;
    }

    /** All that is told, in some 280 calls: none of them changes it. */
    static List<String> told(LullabyHouse x) {
        Answers all = new Answers(x);
        for (int k = 0; k < 3; k++) {
            all.add("count " + k, x.count(k));
        }
        for (int house = 0; house < 2; house++) {
            all.house(house);
            all.songs(house);
            all.people(house);
            all.nights(house);
            all.mornings(house);
        }
        return all.rows;
    }

    /** The fault, the tape and the images, in some 60 calls: behind these the object is not as it was. */
    static List<String> rest(LullabyHouse x) {
        Answers all = new Answers(x);
        all.tape("now");
        for (int k = 0; k < 3; k++) {
            all.add("again " + k, x.again(k) ? 1 : 0);
            all.tape("image " + k);
        }
        return all.rows;
    }

    private void add(String call, long answer) {
        rows.add(call + ": " + answer);
    }

    private void tape(String when) {
        add(when + ", fault", x.fault(0));
        add(when + ", its place", x.fault(1));
        for (int sort = 0; sort < 3; sort++) {
            add(when + ", count " + sort, x.count(sort));
        }
        add(when + ", RENT", x.house(0, 10));
        add(when + ", DEEDS", x.deed(0, -1, 0));
        add(when + ", FACTS", x.fact(0, -1, 0));
        int size = x.feed(0x20202020, 0x20202020, 0x20202020, 0x20202020, 0x20202020);
        add(when + ", tape", size);
        add(when + ", text", x.text(0, 0));
        add(when + ", fault of the text", x.fault(0));
        add(when + ", its place", x.fault(1));
        add(when + ", RENT by the text", x.house(0, 10));
    }

    private void house(int h) {
        int[] details = {0, 1, 2, 3, 4, 10, 11, 12, 20, 21, 22, 30, 32, 33, 40, 42, 43, 50, 52, 60, 62, 70, 72, 73, 80, 82, 90, 92};
        for (int what : details) {
            add("house " + h + " " + what, x.house(h, what));
        }
    }

    private void songs(int h) {
        for (int k = 0; k < 3; k++) {
            add("rota " + h + " " + k, x.rota(h, k));
            add("ease " + h + " " + k, x.ease(h, k - 1));
            add("sung " + h + " " + k, x.sung(h, k, k == 1));
            add("tunes " + h + " " + k, x.tunes(h, 10 * k));
            add("spare " + h + " " + k, x.spare(h, k));
            add("tussle " + h + " " + k, x.tussle(h, k + 1, k == 2));
        }
        add("few " + h, x.few(h, true));
        add("far " + h, x.far(h, false));
        add("mute " + h, x.far(h, true));
        add("loan " + h, x.spare(h, 14));
        add("catch " + h, x.spare(h, 21));
        add("hire " + h, x.hire(h));
        add("range " + h, x.range(h, 3));
        add("choir " + h, x.choir(h, true));
        add("shift " + h, x.shift(h, 2));
        add("tuned " + h, x.tuned(h));
    }

    private void people(int h) {
        add("wakes " + h, x.wakes(h, false));
        add("wakes under " + h, x.wakes(h, true));
        add("change " + h, x.change(h));
        add("sleep " + h, x.sleep(h, 1, false));
        add("sleep under " + h, x.sleep(h, 1, true));
        add("census " + h, x.census(h, 5, false));
        add("census under " + h, x.census(h, 5, true));
        add("move " + h, x.move(h, 0, 1));
        add("landing " + h, x.landing(h, false));
        for (int what = 0; what < 7; what++) {
            add("roof " + h + " " + what, x.roof(h, what));
        }
    }

    private void nights(int h) {
        for (int k = 0; k < 2; k++) {
            add("stop " + h + " " + k, x.stop(h, k));
            add("deeds " + h + " " + k, x.deed(k, -1, 0));
            add("deed " + h + " " + k, x.deed(k, 3 * h, 0));
            add("deed's number " + h + " " + k, x.deed(k, 3 * h, 1));
            for (int what = 0; what < 4; what++) {
                add("after " + h + " " + k + " " + what, x.after(h, k, what));
                add("state " + h + " " + k + " " + what, x.state(h, k, 5, 2 * what + 1));
                add("drawn " + h + " " + k + " " + what, x.drawn(h, 9 + k, 40, 2 * what));
            }
        }
    }

    private void mornings(int h) {
        for (int k = 0; k < 2; k++) {
            add("facts " + h + " " + k, x.fact(k, -1, 0));
            add("fact " + h + " " + k, x.fact(k, 0, h));
            add("odds " + h + " " + k, x.odds(h, k, 5, true));
            for (int what = 0; what < 3; what++) {
                add("fits " + h + " " + k + " " + what, x.fits(h, k, what));
            }
        }
    }
}
