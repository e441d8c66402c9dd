import java.math.BigInteger;
import java.util.ArrayList;
import java.util.Arrays;
import java.util.HashSet;
import java.util.List;
import java.util.Random;
import java.util.Set;
import java.util.TreeSet;

/**
 * Random houses, nights and mornings, asked about in every way, against answers that are found in the plainest
 * way there is: every row of singers, every set of bars that break, every row of notes is looked at.
 */
public final class OracleTest {
    private static final int NONE = -1;

    private final Random random;
    private int floors;
    private int bars;
    private int singers;
    private int step;
    private final Set<Integer> walls = new TreeSet<>();
    private final int[][] floor = new int[6][];
    private final int[][] bar = new int[8][];
    private final int[][] singer = new int[5][];
    private final List<int[]> deeds = new ArrayList<>();
    private final List<int[]> facts = new ArrayList<>();
    private List<int[]> rotas;
    private String name;
    private LullabyHouse x;

    private OracleTest(int seed) {
        random = new Random(seed);
    }

    public static void main(String[] args) {
        for (int seed = 0; seed < 1500; seed++) {
            OracleTest test = new OracleTest(seed);
            test.make(seed);
            test.ask();
        }
        Check.end();
    }

    private int roll(int least, int most) {
        return least + random.nextInt(most - least + 1);
    }

    private String gap() {
        return new String[] {" ", " ", " ", "\n", "  ", " \n "}[random.nextInt(6)];
    }

    private String line(String word, int... numbers) {
        StringBuilder text = new StringBuilder(word);
        for (int n : numbers) {
            text.append(gap()).append(n < 10 && random.nextInt(8) == 0 ? "0" : "").append(n);
        }
        return text.append(random.nextInt(6) == 0 ? " ;" : ";").append(random.nextInt(6) == 0 ? gap() : "").toString();
    }

    private void make(int seed) {
        boolean big = seed % 25 == 0;
        floors = roll(seed % 10 == 0 ? 0 : 1, 6);
        bars = floors == 0 ? 0 : big ? 8 : roll(0, 6);
        singers = big ? roll(3, 5) : roll(0, 5);
        boolean strong = random.nextBoolean();
        boolean wide = random.nextBoolean();
        StringBuilder text = new StringBuilder();
        for (int f = 0; f < floors; f++) {
            floor[f] = new int[] {roll(0, random.nextBoolean() ? 3 : 20), roll(1, 9)};
            text.append(line("floor", floor[f]));
        }
        int notes = roll(2, 9);
        for (int b = 0; b < bars; b++) {
            int note = random.nextInt(5) == 0 ? 0 : roll(1, notes);
            bar[b] = new int[] {note, roll(1, random.nextBoolean() ? 2 : 4), roll(0, floors - 1), roll(0, 10)};
            text.append(line("bar", bar[b]));
        }
        for (int s = 0; s < singers; s++) {
            int low = roll(1, wide ? 3 : 9);
            singer[s] = new int[] {low, wide ? roll(Math.max(6, low), 9) : roll(low, 9), roll(1, strong ? 20 : 6)};
            text.append(line("singer", singer[s]));
        }
        step = 9;
        for (int k = roll(0, 2); k > 0; k--) {
            step = roll(0, random.nextBoolean() ? 9 : 3);
            text.append(line("step", step));
        }
        for (int k = roll(0, 4); k > 0 && bars > 0; k--) {
            int b = roll(0, bars - 1);
            walls.add(b);
            text.append(line("wall", b));
        }
        name = "seed " + seed + ": ";
        int at = seed % 2 == 0 ? NONE : 0;
        x = at == NONE ? new LullabyHouse() : withOthers();
        Check.due(name + "text(0)", Teller.tell(x, 0, at, text.toString()), 0);
        Check.due(name + "text(1)", Teller.tell(x, 1, at, nights()), 0);
        Check.due(name + "text(2)", Teller.tell(x, 2, at, mornings()), 0);
        rotas = rotas(bars, (1 << singers) - 1, 0, 99, NONE);
    }

    /** What was told before in the same place must not be seen any more. */
    private static LullabyHouse withOthers() {
        LullabyHouse old = Teller.with("floor 20 9;".repeat(6) + "bar 9 4 5 10;".repeat(8) + "singer 1 9 20;".repeat(5)
            + "step 1;wall 0;wall 1;wall 2;wall 3;wall 4;wall 5;wall 6;wall 7;");
        Teller.tell(old, 1, NONE, "cold 1;cold 2;sing 1;sing 2;sing 3;skip;night;sing 4;".repeat(5));
        Teller.tell(old, 2, NONE, "dreamt 5;".repeat(8));
        old.rota(0, 0);
        old.state(0, 0, 3, 5);
        old.tussle(0, 4, true);
        return old;
    }

    private String nights() {
        StringBuilder text = new StringBuilder();
        String[] words = {"sing", "cold", "well", "skip", "night"};
        int[] kinds = {0, 0, 0, 0, 0, 0, 1, 2, 3, 4};
        int many = roll(0, 40);
        for (int k = 0; k < many; k++) {
            int kind = kinds[random.nextInt(kinds.length)];
            int who = kind > 2 ? NONE : random.nextInt(30) == 0 ? roll(0, 4) : roll(0, Math.max(0, singers - 1));
            if (kind == 0 && random.nextInt(4) != 0) {
                kind = singers == 0 ? 3 : 0;
                who = singers == 0 ? NONE : k % singers;
            }
            deeds.add(new int[] {kind, who});
            text.append(who == NONE ? line(words[kind]) : line(words[kind], who));
        }
        return text.toString();
    }

    private String mornings() {
        StringBuilder text = new StringBuilder();
        int many = random.nextInt(3) == 0 ? roll(0, 8) : roll(0, 1);
        for (int k = 0; k < many; k++) {
            int kind = roll(0, 1);
            int where = random.nextInt(20) == 0 ? roll(0, 5) : roll(0, Math.max(0, floors - 1));
            facts.add(new int[] {kind, where});
            text.append(line(kind == 0 ? "dreamt" : "calm", where));
        }
        return text.toString();
    }

    private void due(String call, long got, long want) {
        Check.due(name + call, got, want);
    }

    private void ask() {
        askHouse();
        askRotas();
        askChances();
        askTussle();
        askTunes();
        askNights();
        askDrawn();
        askMornings();
        askSong();
    }

    private void askHouse() {
        int bits = 0;
        for (int b : walls) {
            bits |= 1 << b;
        }
        for (int what = -3; what < 105; what++) {
            int k = Math.floorMod(what, 10);
            int want = NONE;
            if (what >= 0 && what < 5) {
                want = new int[] {floors, bars, singers, step, bits}[what];
            } else if (what >= 10 && what < 30 && k < floors) {
                want = floor[k][what / 10 - 1];
            } else if (what >= 30 && what < 70 && k < bars) {
                want = bar[k][what / 10 - 3];
            } else if (what >= 70 && what < 100 && k < singers) {
                want = singer[k][what / 10 - 7];
            }
            due("house(0, " + what + ")", x.house(0, what), want);
        }
        due("count of deeds", x.deed(0, NONE, 0), deeds.size());
        for (int k = 0; k <= deeds.size(); k++) {
            for (int what = 0; what < 2; what++) {
                due("deed(0, " + k + ", " + what + ")", x.deed(0, k, what), k < deeds.size() ? deeds.get(k)[what] : -2);
            }
        }
        due("count of facts", x.fact(0, NONE, 0), facts.size());
        for (int k = 0; k <= facts.size(); k++) {
            for (int what = 0; what < 2; what++) {
                due("fact(0, " + k + ", " + what + ")", x.fact(0, k, what), k < facts.size() ? facts.get(k)[what] : -2);
            }
        }
    }

    private boolean reaches(int s, int note, boolean cold) {
        return singer[s][0] <= note && note <= singer[s][1] - (cold ? 2 : 0);
    }

    /** All rows for the first bars, by numbers; 5 for a rest; 6 is one that is hired, if his breath is not NONE. */
    private List<int[]> rotas(int many, int whom, int loan, int most, int hired) {
        List<int[]> all = new ArrayList<>();
        extend(new int[many], 0, whom, loan, most, hired, all);
        return all;
    }

    private void extend(int[] row, int b, int whom, int loan, int most, int hired, List<int[]> all) {
        if (b == row.length) {
            for (int s = 0; s < 7; s++) {
                int used = used(row, s);
                int breath = s == 6 ? hired : s < singers ? Math.min(most, singer[s][2] + loan) : 0;
                if (s != 5 && used > 0 && used > breath) {
                    return;
                }
            }
            all.add(row.clone());
            return;
        }
        for (int s = 0; s < 7; s++) {
            boolean fits = bar[b][0] == 0 ? s == 5
                : s == 6 ? hired != NONE
                : s < singers && (whom >> s & 1) == 1 && reaches(s, bar[b][0], false);
            if (fits && (s == 5 || b == 0 || row[b - 1] != s)) {
                row[b] = s;
                extend(row, b + 1, whom, loan, most, hired, all);
            }
        }
    }

    private int used(int[] row, int s) {
        int sum = 0;
        for (int b = 0; b < row.length; b++) {
            sum += row[b] == s ? bar[b][1] : 0;
        }
        return sum;
    }

    private int farthest(int loan) {
        int far = 0;
        for (int many = 1; many <= bars; many++) {
            if (!rotas(many, 31, loan, 999, NONE).isEmpty()) {
                far = many;
            }
        }
        return far;
    }

    private void askRotas() {
        boolean some = !rotas.isEmpty();
        for (int k = -1; k <= bars; k++) {
            due("rota(0, " + k + ")", x.rota(0, k), some && k >= 0 && k < bars ? rotas.get(0)[k] : NONE);
        }
        int few = NONE;
        for (int bits = 0; bits < 1 << singers; bits++) {
            boolean fewer = few == NONE || Integer.bitCount(bits) < Integer.bitCount(few);
            if (fewer && !rotas(bars, bits, 0, 99, NONE).isEmpty()) {
                few = bits;
            }
        }
        due("few(0, false)", x.few(0, false), few == NONE ? NONE : Integer.bitCount(few));
        due("few(0, true)", x.few(0, true), few);
        int mute = 0;
        for (int b = 0; b < bars; b++) {
            boolean reached = bar[b][0] == 0;
            for (int s = 0; s < singers; s++) {
                reached |= reaches(s, bar[b][0], false);
            }
            mute |= reached ? 0 : 1 << b;
        }
        due("far(0, false)", x.far(0, false), farthest(0));
        due("far(0, true)", x.far(0, true), mute);
        for (int s = -1; s < 6; s++) {
            boolean there = some && s >= 0 && s < singers;
            int times = 0;
            for (int b = 0; there && b < bars; b++) {
                times += rotas.get(0)[b] == s ? 1 : 0;
            }
            due("sung(0, " + s + ", false)", x.sung(0, s, false), there ? times : NONE);
            int left = there ? singer[s][2] - used(rotas.get(0), s) : NONE;
            due("sung(0, " + s + ", true)", x.sung(0, s, true), left);
        }
        askSpare(some);
        askEase(some);
        int hire = NONE;
        for (int breath = 20; breath >= 0; breath--) {
            if (!rotas(bars, 31, 0, 99, breath).isEmpty()) {
                hire = breath;
            } else {
                break;
            }
        }
        due("hire(0)", x.hire(0), some ? 0 : hire);
    }

    private void askSpare(boolean some) {
        int spare = 0;
        for (int s = 0; s < singers; s++) {
            spare |= rotas(bars, 31 & ~(1 << s), 0, 99, NONE).isEmpty() ? 0 : 1 << s;
        }
        due("spare(0, 0)", x.spare(0, 0), spare);
        due("spare(0, 1)", x.spare(0, 1), Math.min(999999, rotas.size()));
        int cure = some ? 0 : NONE;
        for (int loan = 1; loan <= 20 && cure == NONE; loan++) {
            cure = rotas(bars, 31, loan, 999, NONE).isEmpty() ? NONE : loan;
        }
        due("spare(0, 2)", x.spare(0, 2), cure);
        for (int n = 0; n <= 9; n++) {
            due("spare(0, " + (10 + n) + ")", x.spare(0, 10 + n), farthest(n));
        }
        for (int s = 0; s < 6; s++) {
            int want = s >= singers ? -2 : !some ? NONE : people(coldDreams(s));
            due("spare(0, " + (20 + s) + ")", x.spare(0, 20 + s), want);
        }
        due("spare(0, 9)", x.spare(0, 9), -2);
        due("spare(0, 3)", x.spare(0, 3), -2);
    }

    private void askEase(boolean some) {
        int least = Integer.MAX_VALUE;
        int[] first = null;
        for (int[] row : rotas) {
            int most = 0;
            for (int s = 0; s < singers; s++) {
                most = Math.max(most, used(row, s));
            }
            if (most < least) {
                least = most;
                first = row;
            }
        }
        due("ease(0, NONE)", x.ease(0, NONE), some ? least : NONE);
        for (int k = 0; k <= bars; k++) {
            due("ease(0, " + k + ")", x.ease(0, k), some && k < bars ? first[k] : NONE);
        }
    }

    private Set<Integer> coldDreams(int s) {
        Set<Integer> dreams = new HashSet<>();
        for (int b = 0; b < bars; b++) {
            if (rotas.get(0)[b] == s && s < singers && !reaches(s, bar[b][0], true)) {
                dreams.add(bar[b][2]);
            }
        }
        return dreams;
    }

    private int people(Set<Integer> whose) {
        int sum = 0;
        for (int f : whose) {
            sum += floor[f][1];
        }
        return sum;
    }

    private Set<Integer> up(int least) {
        Set<Integer> all = new HashSet<>();
        for (int f = least; f < floors; f++) {
            all.add(f);
        }
        return all;
    }

    /** Weights, of 10 to the bars, by the lowest floor that is awake (floors: none). */
    private long[] weights(int[] floorOf) {
        long[] sum = new long[7];
        for (int broken = 0; broken < 1 << bars; broken++) {
            long weight = 1;
            int least = floors;
            for (int b = 0; b < bars; b++) {
                int risk = bar[b][0] == 0 ? 0 : bar[b][3];
                if ((broken >> b & 1) == 1) {
                    weight *= risk;
                    least = Math.min(least, floorOf[b]);
                } else {
                    weight *= 10 - risk;
                }
            }
            sum[least] += weight;
        }
        return sum;
    }

    private long mean(int[] floorOf) {
        long[] weights = weights(floorOf);
        long sum = 0;
        for (int f = 0; f < floors; f++) {
            sum += weights[f] * people(up(f));
        }
        return sum;
    }

    private void dueFraction(String call, long gotN, long gotD, long n) {
        BigInteger over = BigInteger.valueOf(n);
        BigInteger under = BigInteger.TEN.pow(bars);
        BigInteger common = over.gcd(under);
        due(call + " N", gotN, over.divide(common).longValue());
        due(call + " D", gotD, under.divide(common).longValue());
    }

    private void askChances() {
        int[] floorOf = new int[bars];
        for (int b = 0; b < bars; b++) {
            floorOf[b] = bar[b][2];
        }
        long now = mean(floorOf);
        dueFraction("wakes", x.wakes(0, false), x.wakes(0, true), now);
        int change = NONE;
        long least = now;
        for (int one = 0; one < bars; one++) {
            for (int two = one + 1; two < bars; two++) {
                int[] tried = floorOf.clone();
                tried[one] = floorOf[two];
                tried[two] = floorOf[one];
                long then = mean(tried);
                if (then < least) {
                    least = then;
                    change = one * 10 + two;
                }
            }
        }
        due("change(0)", x.change(0), change);
        long[] weights = weights(floorOf);
        for (int f = 0; f < floors; f++) {
            long asleep = 0;
            for (int lowest = f + 1; lowest <= floors; lowest++) {
                asleep += weights[lowest];
            }
            dueFraction("sleep of " + f, x.sleep(0, f, false), x.sleep(0, f, true), asleep);
        }
        due("sleep(0, floors)", x.sleep(0, floors, false), NONE);
        for (int n = 0; n <= 54; n++) {
            long sum = 0;
            for (int lowest = 0; lowest <= floors; lowest++) {
                sum += people(up(lowest)) >= n ? weights[lowest] : 0;
            }
            dueFraction("census of " + n, x.census(0, n, false), x.census(0, n, true), sum);
        }
    }

    private int worth(Set<Integer> skipped, Set<Integer> unpaid, int turn, int n) {
        if (turn == n) {
            int sum = 0;
            for (int b : skipped) {
                sum += bar[b][1];
            }
            for (int f : unpaid) {
                sum -= floor[f][0];
            }
            return sum;
        }
        int best = worth(skipped, unpaid, turn + 1, n);
        if (turn % 2 == 0) {
            for (int b = 0; b < bars; b++) {
                if (bar[b][0] != 0 && !skipped.contains(b)) {
                    Set<Integer> more = new HashSet<>(skipped);
                    more.add(b);
                    best = Math.max(best, worth(more, unpaid, turn + 1, n));
                }
            }
            return best;
        }
        for (int f = 0; f < floors; f++) {
            boolean awake = false;
            for (int b : skipped) {
                awake |= bar[b][2] <= f;
            }
            if (awake && !unpaid.contains(f)) {
                Set<Integer> more = new HashSet<>(unpaid);
                more.add(f);
                best = Math.min(best, worth(skipped, more, turn + 1, n));
            }
        }
        return best;
    }

    private void askTussle() {
        for (int n = 0; n <= (bars > 6 ? 3 : 4); n++) {
            int worth = worth(Set.of(), Set.of(), 0, n);
            int first = NONE;
            for (int b = 0; n > 0 && b <= 8 && first == NONE; b++) {
                if (b == 8) {
                    first = 8;
                } else if (b < bars && bar[b][0] != 0 && worth(Set.of(b), Set.of(), 1, n) == worth) {
                    first = b;
                }
            }
            due("tussle(0, " + n + ", false)", x.tussle(0, n, false), worth);
            due("tussle(0, " + n + ", true)", x.tussle(0, n, true), first);
        }
    }

    private void askTunes() {
        List<Integer> walled = new ArrayList<>(walls);
        int count = 0;
        int[] first = null;
        List<Set<Integer>> seen = new ArrayList<>();
        for (int i = 0; i < walled.size(); i++) {
            seen.add(new HashSet<>());
        }
        int rows = (int) Math.pow(9, walled.size());
        for (int row = 0; row < rows; row++) {
            int[] notes = new int[walled.size()];
            int rest = row;
            for (int i = walled.size() - 1; i >= 0; i--) {
                notes[i] = rest % 9 + 1;
                rest /= 9;
            }
            if (isTune(walled, notes)) {
                count++;
                first = first == null ? notes : first;
                for (int i = 0; i < notes.length; i++) {
                    seen.get(i).add(notes[i]);
                }
            }
        }
        due("tunes(0, 0)", x.tunes(0, 0), count);
        for (int k = 0; k < 10; k++) {
            boolean there = k < walled.size();
            due("tunes(0, " + (10 + k) + ")", x.tunes(0, 10 + k), !there ? -2 : count == 0 ? NONE : first[k]);
            int sure = !there ? -2 : seen.get(k).size() == 1 ? seen.get(k).iterator().next() : NONE;
            due("tunes(0, " + (20 + k) + ")", x.tunes(0, 20 + k), sure);
        }
    }

    private boolean isTune(List<Integer> walled, int[] notes) {
        int[] song = new int[bars];
        for (int b = 0; b < bars; b++) {
            song[b] = walled.contains(b) ? notes[walled.indexOf(b)] : bar[b][0];
        }
        for (int b = 1; b < bars; b++) {
            boolean neighbours = song[b] != 0 && song[b - 1] != 0;
            if (neighbours && Math.abs(song[b] - song[b - 1]) > step) {
                return false;
            }
        }
        return true;
    }

    /** Nights, each deed told as an entry of a log. */
    private final class Log {
        int night;
        int bar0;
        Set<Integer> awake = new HashSet<>();
        int woken;
        int paid;
        Set<Integer> colds = new TreeSet<>();
        Set<Integer> dreaming = new HashSet<>();
        int[] sangBar = new int[8];
        List<Integer> dreamDeeds = new ArrayList<>();
        List<Integer> sangAll = new ArrayList<>();
        List<Integer> wokenByNight = new ArrayList<>();
        int done;

        Log() {
            Arrays.fill(sangBar, NONE);
        }

        int next() {
            for (int b = bar0; b < bars; b++) {
                if (bar[b][0] != 0) {
                    return b;
                }
            }
            return NONE;
        }

        int left(int s) {
            int left = singer[s][2];
            for (int b = 0; b < bars; b++) {
                left -= sangBar[b] == s ? bar[b][1] : 0;
            }
            return left;
        }

        int ahead() {
            return next() <= 0 ? NONE : sangBar[next() - 1];
        }

        boolean tryDeed(int kind, int s) {
            int next = next();
            if (kind < 3 && s >= singers || (kind == 0 || kind == 3) && next == NONE) {
                return false;
            }
            if (kind == 0) {
                if (ahead() == s || left(s) < bar[next][1]) {
                    return false;
                }
                sangBar[next] = s;
                sangAll.add(s);
                if (!reaches(s, bar[next][0], colds.contains(s))) {
                    dreaming.add(bar[next][2]);
                    dreamDeeds.add(done);
                }
                bar0 = next + 1;
            } else if (kind == 1) {
                colds.add(s);
            } else if (kind == 2) {
                colds.remove(s);
            } else if (kind == 3) {
                awake.addAll(up(bar[next][2]));
                bar0 = next + 1;
            } else {
                endNight();
            }
            done++;
            return true;
        }

        private void endNight() {
            int least = 99;
            for (int b = bar0; b < bars; b++) {
                least = bar[b][0] == 0 ? least : Math.min(least, bar[b][2]);
            }
            awake.addAll(up(least));
            wokenByNight.add(people(awake));
            woken += people(awake);
            for (int f = 0; f < floors; f++) {
                paid += awake.contains(f) ? 0 : floor[f][0];
            }
            night++;
            bar0 = 0;
            awake.clear();
            dreaming.clear();
            Arrays.fill(sangBar, NONE);
        }

        int bits(Set<Integer> of) {
            int bits = 0;
            for (int i : of) {
                bits |= 1 << i;
            }
            return bits;
        }

        int look(int what) {
            if (what >= 0 && what <= 8) {
                return new int[] {night, next(), bits(awake), woken, paid, dreamDeeds.size(), bits(colds), ahead(),
                    bits(dreaming)}[what];
            }
            return what >= 10 && what < 10 + singers ? left(what - 10) : -2;
        }
    }

    private void askNights() {
        Log log = new Log();
        int stop = 0;
        while (true) {
            for (int what = -1; what < 17; what++) {
                due("state(0, 0, " + stop + ", " + what + ")", x.state(0, 0, stop, what), log.look(what));
            }
            if (stop == deeds.size() || !log.tryDeed(deeds.get(stop)[0], deeds.get(stop)[1])) {
                break;
            }
            stop++;
        }
        due("stop(0, 0)", x.stop(0, 0), stop);
        due("state behind stop", x.state(0, 0, stop + 1, 0), -2);
        due("state(0, 0, -1, 0)", x.state(0, 0, -1, 0), -2);
        due("after(0, 0, 0)", x.after(0, 0, 0), log.dreamDeeds.isEmpty() ? NONE : log.dreamDeeds.get(0));
        int hoarse = NONE;
        for (int s = 4; s >= 0; s--) {
            int times = java.util.Collections.frequency(log.sangAll, s);
            if (times > 0 && (hoarse == NONE || times >= java.util.Collections.frequency(log.sangAll, hoarse))) {
                hoarse = s;
            }
        }
        due("after(0, 0, 1)", x.after(0, 0, 1), hoarse);
        List<Integer> woken = log.wokenByNight;
        due("after(0, 0, 2)", x.after(0, 0, 2),
            woken.isEmpty() ? NONE : woken.indexOf(java.util.Collections.max(woken)));
        due("after(0, 0, 3)", x.after(0, 0, 3), java.util.Collections.frequency(woken, 0));
        due("after(0, 0, 4)", x.after(0, 0, 4), -2);
    }

    private long seed;

    private int below(int n) {
        seed = (seed * 1103515245L + 12345L) & 0xffffffffL;
        return (int) ((seed >> 16) % n);
    }

    private void askDrawn() {
        for (int trial = 0; trial < 3; trial++) {
            int start = random.nextInt();
            int n = trial == 0 ? 60 : roll(0, 60);
            seed = start & 0xffffffffL;
            Log log = new Log();
            for (int k = 0; k < n; k++) {
                int number = below(8);
                if (number >= 6) {
                    log.tryDeed(number == 6 ? 3 : 4, NONE);
                } else if (singers > 0) {
                    int kind = number == 5 ? 1 + below(2) : 0;
                    log.tryDeed(kind, below(singers));
                }
            }
            for (int what = -1; what < 17; what++) {
                due("drawn(0, " + start + ", " + n + ", " + what + ")", x.drawn(0, start, n, what), log.look(what));
            }
        }
    }

    private void askMornings() {
        boolean can = !rotas.isEmpty();
        for (int[] fact : facts) {
            can &= fact[1] < floors;
        }
        List<Integer> fit = new ArrayList<>();
        List<Set<Integer>> dreams = new ArrayList<>();
        for (int s = 0; can && s <= 5; s++) {
            Set<Integer> dreamt = s == 5 ? new HashSet<>() : coldDreams(s);
            boolean fits = s < singers || s == 5;
            for (int[] fact : facts) {
                fits &= dreamt.contains(fact[1]) == (fact[0] == 0);
            }
            if (fits) {
                fit.add(s);
                dreams.add(dreamt);
            }
        }
        due("fits(0, 0, 0)", x.fits(0, 0, 0), can ? fit.size() : -2);
        due("fits(0, 0, 1)", x.fits(0, 0, 1), !can ? -2 : fit.size() == 1 ? fit.get(0) : NONE);
        int ask = NONE;
        int least = 99;
        for (int f = 0; f < floors && !fit.isEmpty(); f++) {
            int dreamt = 0;
            for (Set<Integer> one : dreams) {
                dreamt += one.contains(f) ? 1 : 0;
            }
            int greater = Math.max(dreamt, fit.size() - dreamt);
            if (greater < least) {
                least = greater;
                ask = f;
            }
        }
        due("fits(0, 0, 2)", x.fits(0, 0, 2), can ? ask : -2);
        for (int k = 0; k < 7; k++) {
            due("fits(0, 0, " + (10 + k) + ")", x.fits(0, 0, 10 + k), can && k < fit.size() ? fit.get(k) : -2);
        }
        due("fits(0, 0, 3)", x.fits(0, 0, 3), -2);
        for (int s = -1; s < 7; s++) {
            boolean there = can && !fit.isEmpty() && s >= 0 && (s < singers || s == 5);
            boolean may = fit.contains(s);
            due("odds N of " + s, x.odds(0, 0, s, false), !there ? NONE : may ? 1 : 0);
            due("odds D of " + s, x.odds(0, 0, s, true), !there ? NONE : may ? fit.size() : 1);
        }
    }

    private void askSong() {
        int quietest = NONE;
        for (int b = 0; b < 10; b++) {
            int roof = b >= bars ? -2 : bar[b][0] == 0 ? 0 : people(up(bar[b][2]));
            due("roof(0, " + (10 + b) + ")", x.roof(0, 10 + b), roof);
            if (b < bars && bar[b][0] != 0 && (quietest == NONE || roof < people(up(bar[quietest][2])))) {
                quietest = b;
            }
        }
        int rents = 0;
        for (int f = 0; f < floors; f++) {
            rents += floor[f][0];
        }
        due("roof(0, 0)", x.roof(0, 0), quietest);
        due("roof(0, 1)", x.roof(0, 1), people(up(0)));
        due("roof(0, 2)", x.roof(0, 2), rents);
        askRows();
        askMove();
        askReach();
    }

    private void askRows() {
        int climb = 0;
        int where = NONE;
        int echo = 0;
        int begins = NONE;
        for (int from = 0; from < bars; from++) {
            for (int to = from + 1; to <= bars; to++) {
                boolean climbs = true;
                for (int b = from; b < to; b++) {
                    climbs &= bar[b][0] != 0 && (b == from || bar[b][2] >= bar[b - 1][2]);
                }
                if (climbs && to - from > climb) {
                    climb = to - from;
                    where = from;
                }
                int length = to - from;
                for (int other = to; other + length <= bars; other++) {
                    boolean same = true;
                    for (int i = 0; i < length; i++) {
                        same &= bar[from + i][0] == bar[other + i][0] && bar[from + i][1] == bar[other + i][1];
                    }
                    if (same && length > echo) {
                        echo = length;
                        begins = from;
                    }
                }
            }
        }
        due("roof(0, 3)", x.roof(0, 3), climb);
        due("roof(0, 4)", x.roof(0, 4), where);
        due("roof(0, 5)", x.roof(0, 5), echo);
        due("roof(0, 6)", x.roof(0, 6), begins);
        due("roof(0, 7)", x.roof(0, 7), -2);
    }

    private int wokenOneByOne(int from, int to) {
        int sum = 0;
        for (int b = 0; b < bars; b++) {
            sum += bar[b][0] == 0 ? 0 : people(up(bar[b][2] == from ? to : bar[b][2]));
        }
        return sum;
    }

    private void askMove() {
        for (int f = -1; f < 7; f++) {
            for (int n = -1; n < 7; n++) {
                boolean there = f >= 0 && f < floors && n >= 0 && n < floors;
                int want = there ? wokenOneByOne(f, n) - wokenOneByOne(f, f) : -999;
                due("move(0, " + f + ", " + n + ")", x.move(0, f, n), want);
            }
        }
        int busiest = NONE;
        int most = 0;
        for (int f = 0; f < floors; f++) {
            int many = 0;
            for (int b = 0; b < bars; b++) {
                many += bar[b][0] != 0 && bar[b][2] == f ? 1 : 0;
            }
            if (busiest == NONE || many > most) {
                busiest = f;
                most = many;
            }
        }
        due("landing(0, false)", x.landing(0, false), busiest);
        due("landing(0, true)", x.landing(0, true), most);
    }

    private boolean anybody(int bits, int note) {
        for (int s = 0; s < singers; s++) {
            if ((bits >> s & 1) == 1 && reaches(s, note, false)) {
                return true;
            }
        }
        return false;
    }

    private void askReach() {
        int choir = NONE;
        for (int bits = 0; bits < 64; bits++) {
            int notes = 0;
            for (int n = 1; n <= 9; n++) {
                notes += anybody(bits, n) ? 1 : 0;
            }
            boolean there = bits < 1 << singers;
            due("range(0, " + bits + ")", x.range(0, bits), there ? notes : NONE);
            boolean all = there;
            for (int b = 0; b < bars; b++) {
                all &= bar[b][0] == 0 || anybody(bits, bar[b][0]);
            }
            if (all && (choir == NONE || Integer.bitCount(bits) < Integer.bitCount(choir))) {
                choir = bits;
            }
        }
        due("choir(0, false)", x.choir(0, false), choir == NONE ? NONE : Integer.bitCount(choir));
        due("choir(0, true)", x.choir(0, true), choir);
        int[] reached = new int[19];
        int tuned = -9;
        for (int d = -9; d <= 9; d++) {
            for (int b = 0; b < bars; b++) {
                reached[d + 9] += bar[b][0] != 0 && anybody(31, bar[b][0] + d) ? 1 : 0;
            }
            boolean there = Math.abs(d) <= 8;
            due("shift(0, " + d + ")", x.shift(0, d), there ? reached[d + 9] : NONE);
            if (!there) {
                continue;
            }
            boolean more = tuned == -9 || reached[d + 9] > reached[tuned + 9];
            boolean nearer = tuned != -9 && reached[d + 9] == reached[tuned + 9] && Math.abs(d) <= Math.abs(tuned);
            tuned = more || nearer ? d : tuned;
        }
        due("tuned(0)", x.tuned(0), tuned);
    }
}
