import java.util.Arrays;

/** A house in which a lullaby is sung: houses, nights and mornings told as texts, and what follows from them. */
public final class LullabyHouse {
    /** There is none. */
    public static final int NONE = -1;

    private static final int MISSING = -2;
    private static final int NO_GAME = -999;
    private static final int NO_TUNING = -99;

    private static final int FLOORS = 6;
    private static final int BARS = 8;
    private static final int SINGERS = 5;
    private static final int NOTES = 9;
    private static final int DEEDS = 40;
    private static final int FACTS = 8;
    private static final int NOBODY = 5;
    private static final int TAPE = 600;
    private static final int FEED = 20;
    private static final int IMAGES = 3;

    private static final int SORTS = 3;
    private static final int PLACES = 2;
    private static final int OF_HOUSES = 0;
    private static final int OF_NIGHTS = 1;

    private static final int MOST_BREATH = 20;
    private static final int MOST_LOAN = 9;
    private static final int MOST_ROTAS = 999999;
    private static final int MOST_TURNS = 4;
    private static final int MOST_DRAWN = 60;
    private static final int MOST_NIGHT = 99;
    private static final int MOST_PEOPLE = 54;
    private static final int MOST_SHIFT = 8;
    private static final int COLD_LOSS = 2;

    private static final int SING = 0;
    private static final int COLD = 1;
    private static final int WELL = 2;
    private static final int SKIP = 3;
    private static final int NIGHT = 4;

    private final Told now = new Told();
    private final Told[] images = {new Told(), new Told(), new Told()};
    private final boolean[] kept = new boolean[IMAGES];
    private final Reader reader = new Reader();
    private final Rota search = new Rota();
    private final Night night = new Night();
    private final Chance chance = new Chance();
    private final Tussle game = new Tussle();
    private final Tunes melody = new Tunes();
    private final Morning dawn = new Morning();

    public LullabyHouse() {
    }

    public int feed(int a, int b, int c, int d, int e) {
        if (now.size + FEED > TAPE) {
            return NONE;
        }
        now.put(a);
        now.put(b);
        now.put(c);
        now.put(d);
        now.put(e);
        return now.size;
    }

    public int end(int n) {
        if (n < 0 || n > now.size) {
            return NONE;
        }
        now.size = n;
        return n;
    }

    public int text(int sort, int at) {
        int size = now.size;
        // The tape is taken by every text(), also by one that can't be read.
        now.size = 0;
        now.fault = 0;
        now.place = NONE;
        int number = now.numberFor(sort, at);
        if (number == NONE) {
            return MISSING;
        }
        reader.read(now.tape, size, sort);
        now.fault = reader.fault;
        now.place = reader.place;
        if (reader.fault != 0) {
            return NONE;
        }
        now.keep(sort, number, reader.house, reader.rows);
        return number;
    }

    public int fault(int what) {
        if (what == 0) {
            return now.fault;
        }
        return what == 1 ? now.place : NONE;
    }

    public int house(int house, int what) {
        House h = now.houseAt(house);
        if (h == null) {
            return NONE;
        }
        switch (what) {
            case 0:
                return h.floors;
            case 1:
                return h.bars;
            case 2:
                return h.singers;
            case 3:
                return h.step;
            case 4:
                return h.walled;
            default:
                return h.detail(what);
        }
    }

    public int deed(int nights, int k, int what) {
        return rowOf(now.nightsAt(nights), k, what);
    }

    public int stop(int house, int nights) {
        House h = now.houseAt(house);
        Rows deeds = now.nightsAt(nights);
        if (h == null || deeds == null) {
            return NONE;
        }
        return night.play(h, deeds, deeds.size);
    }

    public int state(int house, int nights, int n, int what) {
        House h = now.houseAt(house);
        Rows deeds = now.nightsAt(nights);
        if (h == null || deeds == null || n < 0 || n > deeds.size) {
            return MISSING;
        }
        return night.play(h, deeds, n) < n ? MISSING : night.look(what);
    }

    public int rota(int house, int k) {
        House h = now.houseAt(house);
        if (h == null || !h.hasBar(k) || !search.finds(h)) {
            return NONE;
        }
        return search.singerOf(k);
    }

    public int few(int house, boolean who) {
        House h = now.houseAt(house);
        if (h == null) {
            return NONE;
        }
        int bits = search.fewest(h);
        return bits == NONE || who ? bits : Integer.bitCount(bits);
    }

    public int far(int house, boolean mute) {
        House h = now.houseAt(house);
        if (h == null) {
            return NONE;
        }
        return mute ? h.mutes() : search.farWith(h, 0);
    }

    public long wakes(int house, boolean under) {
        House h = now.houseAt(house);
        if (h == null) {
            return NONE;
        }
        chance.enter(h);
        return Chance.part(chance.mean(), under);
    }

    public int change(int house) {
        House h = now.houseAt(house);
        if (h == null) {
            return NONE;
        }
        chance.enter(h);
        return chance.bestSwap();
    }

    public int tussle(int house, int n, boolean first) {
        House h = now.houseAt(house);
        if (h == null || n < 0 || n > MOST_TURNS) {
            return NO_GAME;
        }
        game.play(h, n);
        return first ? game.opening : game.worth;
    }

    public int tunes(int house, int what) {
        House h = now.houseAt(house);
        if (h == null) {
            return MISSING;
        }
        melody.enter(h);
        if (what == 0) {
            return melody.rows();
        }
        if (what < 10 || what >= 30) {
            return MISSING;
        }
        int k = what % 10;
        if (k >= Integer.bitCount(h.walled)) {
            return MISSING;
        }
        return what < 20 ? melody.leastOf(k) : melody.sureOf(k);
    }

    public int fact(int mornings, int k, int what) {
        return rowOf(now.morningsAt(mornings), k, what);
    }

    public int fits(int house, int mornings, int what) {
        House h = now.houseAt(house);
        if (!dawns(h, now.morningsAt(mornings))) {
            return MISSING;
        }
        switch (what) {
            case 0:
                return Integer.bitCount(dawn.fitting);
            case 1:
                return Integer.bitCount(dawn.fitting) == 1 ? bitAt(dawn.fitting, 0) : NONE;
            case 2:
                return dawn.question(h);
            default:
                int found = what < 10 ? NONE : bitAt(dawn.fitting, what - 10);
                return found == NONE ? MISSING : found;
        }
    }

    public int drawn(int house, int seed, int n, int what) {
        House h = now.houseAt(house);
        if (h == null || n < 0 || n > MOST_DRAWN) {
            return MISSING;
        }
        night.draw(h, seed, n);
        return night.look(what);
    }

    public int sung(int house, int singer, boolean left) {
        House h = now.houseAt(house);
        if (h == null || !h.hasSinger(singer) || !search.finds(h)) {
            return NONE;
        }
        return left ? search.breathOf(singer) : search.barsOf(singer);
    }

    public int spare(int house, int what) {
        House h = now.houseAt(house);
        if (h == null) {
            return MISSING;
        }
        if (what == 0) {
            return search.spares(h);
        }
        if (what == 1) {
            return search.all(h);
        }
        if (what == 2) {
            return search.cure(h);
        }
        if (what >= 10 && what <= 10 + MOST_LOAN) {
            return search.farWith(h, what - 10);
        }
        if (what < 20 || !h.hasSinger(what - 20)) {
            return MISSING;
        }
        return search.finds(h) ? h.peopleOf(search.coldDreams(what - 20)) : NONE;
    }

    public int ease(int house, int k) {
        House h = now.houseAt(house);
        if (h == null || k != NONE && !h.hasBar(k)) {
            return NONE;
        }
        int most = search.easiest(h);
        return most == NONE || k == NONE ? most : search.singerOf(k);
    }

    public int roof(int house, int what) {
        House h = now.houseAt(house);
        if (h == null) {
            return MISSING;
        }
        switch (what) {
            case 0:
                return h.quietest();
            case 1:
                return h.peopleOf(h.from(0));
            case 2:
                return h.rentsOf(h.from(0));
            case 3:
                return longestClimb(h) & 15;
            case 4:
                return (longestClimb(h) >> 4) - 1;
            case 5:
                return longestEcho(h) & 15;
            case 6:
                return (longestEcho(h) >> 4) - 1;
            default:
                return what >= 10 && h.hasBar(what - 10) ? h.roofOf(what - 10) : MISSING;
        }
    }

    public long sleep(int house, int floor, boolean under) {
        House h = now.houseAt(house);
        if (h == null || !h.hasFloor(floor)) {
            return NONE;
        }
        chance.enter(h);
        return Chance.part(chance.asleep(floor), under);
    }

    public long census(int house, int n, boolean under) {
        House h = now.houseAt(house);
        if (h == null || n < 0 || n > MOST_PEOPLE) {
            return NONE;
        }
        chance.enter(h);
        return Chance.part(chance.atLeast(n), under);
    }

    public int move(int house, int floor, int n) {
        House h = now.houseAt(house);
        if (h == null || !h.hasFloor(floor) || !h.hasFloor(n)) {
            return NO_GAME;
        }
        int gain = h.peopleOf(h.from(n)) - h.peopleOf(h.from(floor));
        return h.notesOn(floor) * gain;
    }

    public int range(int house, int singers) {
        House h = now.houseAt(house);
        if (h == null || (singers & ~h.everybody()) != 0) {
            return NONE;
        }
        return Integer.bitCount(h.notesOf(singers));
    }

    public int choir(int house, boolean who) {
        House h = now.houseAt(house);
        if (h == null) {
            return NONE;
        }
        int bits = smallestChoir(h);
        return bits == NONE || who ? bits : Integer.bitCount(bits);
    }

    public int after(int house, int nights, int what) {
        House h = now.houseAt(house);
        Rows deeds = now.nightsAt(nights);
        if (h == null || deeds == null) {
            return MISSING;
        }
        night.play(h, deeds, deeds.size);
        switch (what) {
            case 0:
                return night.firstDream;
            case 1:
                return night.hoarsest();
            case 2:
                return night.worst;
            case 3:
                return night.calms;
            default:
                return MISSING;
        }
    }

    public long odds(int house, int mornings, int singer, boolean under) {
        House h = now.houseAt(house);
        if (!dawns(h, now.morningsAt(mornings)) || dawn.fitting == 0) {
            return NONE;
        }
        if (singer != NOBODY && (h == null || !h.hasSinger(singer))) {
            return NONE;
        }
        boolean may = (dawn.fitting >> singer & 1) != 0;
        if (under) {
            return may ? Integer.bitCount(dawn.fitting) : 1;
        }
        return may ? 1 : 0;
    }

    public int hire(int house) {
        House h = now.houseAt(house);
        return h == null ? NONE : search.hired(h);
    }

    public int shift(int house, int d) {
        House h = now.houseAt(house);
        if (h == null || d < -MOST_SHIFT || d > MOST_SHIFT) {
            return NONE;
        }
        return h.reachedBy(d);
    }

    public int tuned(int house) {
        House h = now.houseAt(house);
        if (h == null) {
            return NO_TUNING;
        }
        int best = 0;
        for (int d = 1; d <= MOST_SHIFT; d++) {
            if (h.reachedBy(d) > h.reachedBy(best)) {
                best = d;
            }
            if (h.reachedBy(-d) > h.reachedBy(best)) {
                best = -d;
            }
        }
        return best;
    }

    public int landing(int house, boolean many) {
        House h = now.houseAt(house);
        if (h == null) {
            return MISSING;
        }
        int floor = h.busiest();
        return many ? h.notesOn(floor) : floor;
    }

    public int count(int sort) {
        return sort < 0 || sort >= SORTS ? MISSING : now.counts[sort];
    }

    public boolean image(int k) {
        if (k < 0 || k >= IMAGES) {
            return false;
        }
        images[k].copy(now);
        kept[k] = true;
        return true;
    }

    public boolean again(int k) {
        if (k < 0 || k >= IMAGES || !kept[k]) {
            return false;
        }
        now.copy(images[k]);
        return true;
    }

    private static int rowOf(Rows rows, int k, int what) {
        if (rows == null) {
            return MISSING;
        }
        if (k == NONE) {
            return what == 0 ? rows.size : MISSING;
        }
        if (k < 0 || k >= rows.size || what < 0 || what > 1) {
            return MISSING;
        }
        return what == 0 ? at(rows.kinds, k) : at(rows.numbers, k);
    }

    /** Whether mornings can be thought about in a house at all; if so, the dawn knows who fits. */
    private boolean dawns(House h, Rows facts) {
        if (h == null || facts == null || !facts.numbersBelow(h.floors) || !search.finds(h)) {
            return false;
        }
        dawn.judge(h, facts, search);
        return true;
    }

    /** Length in the low four bits, the first bar and one above them: both come from one look. */
    private static int longestClimb(House h) {
        int best = 0;
        int length = 0;
        for (int b = 0; b < h.bars && b < BARS; b++) {
            boolean climbs = length > 0 && at(h.ground, b) >= at(h.ground, b - 1);
            length = !h.sounds(b) ? 0 : climbs ? length + 1 : 1;
            if (length > (best & 15)) {
                best = (b - length + 2) << 4 | length;
            }
        }
        return best;
    }

    /** As longestClimb(): length below, the first bar and one above. */
    private static int longestEcho(House h) {
        for (int length = h.bars / 2; length > 0; length--) {
            for (int one = 0; one + 2 * length <= h.bars; one++) {
                for (int two = one + length; two + length <= h.bars; two++) {
                    if (h.alike(one, two, length)) {
                        return (one + 1) << 4 | length;
                    }
                }
            }
        }
        return 0;
    }

    private static int smallestChoir(House h) {
        int wanted = h.notesSung();
        int best = NONE;
        for (int bits = 0; bits <= h.everybody(); bits++) {
            boolean enough = (wanted & ~h.notesOf(bits)) == 0;
            if (enough && (best == NONE || Integer.bitCount(bits) < Integer.bitCount(best))) {
                best = bits;
            }
        }
        return best;
    }

    /** An element, or 0 beside the row: no index is used without a look at it. */
    private static int at(int[] row, int i) {
        return i >= 0 && i < row.length ? row[i] : 0;
    }

    /** The k-th bit that is set, from the lowest on. */
    private static int bitAt(int bits, int k) {
        int seen = 0;
        for (int i = 0; i < 31; i++) {
            if ((bits >> i & 1) != 0) {
                if (seen == k) {
                    return i;
                }
                seen++;
            }
        }
        return NONE;
    }

    /** All that is told: what an image keeps. */
    private static final class Told {
        final byte[] tape = new byte[TAPE];
        int size = 0;
        int fault = 0;
        int place = NONE;
        final int[] counts = new int[SORTS];
        final House[] houses = {new House(), new House()};
        final Rows[] nights = {new Rows(DEEDS), new Rows(DEEDS)};
        final Rows[] mornings = {new Rows(FACTS), new Rows(FACTS)};

        void put(int number) {
            for (int shift = 24; shift >= 0; shift -= 8) {
                if (size >= 0 && size < TAPE) {
                    tape[size] = (byte) (number >> shift);
                    size++;
                }
            }
        }

        House houseAt(int k) {
            return k >= 0 && k < counts[OF_HOUSES] && k < PLACES ? houses[k] : null;
        }

        Rows nightsAt(int k) {
            return k >= 0 && k < counts[OF_NIGHTS] && k < PLACES ? nights[k] : null;
        }

        Rows morningsAt(int k) {
            return k >= 0 && k < counts[SORTS - 1] && k < PLACES ? mornings[k] : null;
        }

        /** The number that a text of a sort would get, NONE if it can't have one. */
        int numberFor(int sort, int place) {
            if (sort < 0 || sort >= SORTS) {
                return NONE;
            }
            if (place == NONE) {
                return counts[sort] < PLACES ? counts[sort] : NONE;
            }
            return place >= 0 && place < counts[sort] ? place : NONE;
        }

        void keep(int sort, int number, House house, Rows rows) {
            if (sort < 0 || sort >= SORTS || number < 0 || number >= PLACES) {
                return;
            }
            if (sort == OF_HOUSES) {
                houses[number].copy(house);
            } else if (sort == OF_NIGHTS) {
                nights[number].copy(rows);
            } else {
                mornings[number].copy(rows);
            }
            counts[sort] = Math.max(counts[sort], number + 1);
        }

        void copy(Told other) {
            System.arraycopy(other.tape, 0, tape, 0, TAPE);
            size = other.size;
            fault = other.fault;
            place = other.place;
            System.arraycopy(other.counts, 0, counts, 0, SORTS);
            for (int k = 0; k < PLACES; k++) {
                houses[k].copy(other.houses[k]);
                nights[k].copy(other.nights[k]);
                mornings[k].copy(other.mornings[k]);
            }
        }
    }

    /** Deeds of nights, or facts of mornings: kinds, each with a number or NONE. */
    private static final class Rows {
        final int most;
        final int[] kinds;
        final int[] numbers;
        int size = 0;

        Rows(int most) {
            this.most = Math.max(0, most);
            this.kinds = new int[this.most];
            this.numbers = new int[this.most];
        }

        void add(int kind, int number) {
            if (size >= 0 && size < most) {
                kinds[size] = kind;
                numbers[size] = number;
                size++;
            }
        }

        boolean numbersBelow(int bound) {
            for (int k = 0; k < size && k < most; k++) {
                if (numbers[k] >= bound) {
                    return false;
                }
            }
            return true;
        }

        void copy(Rows other) {
            size = 0;
            for (int k = 0; k < other.size; k++) {
                add(at(other.kinds, k), at(other.numbers, k));
            }
        }
    }

    /** A house as told. */
    private static final class House {
        int floors = 0;
        int bars = 0;
        int singers = 0;
        int step = 9;
        int walled = 0;
        final int[] rent = new int[FLOORS];
        final int[] people = new int[FLOORS];
        final int[] note = new int[BARS];
        final int[] length = new int[BARS];
        final int[] ground = new int[BARS];
        final int[] risk = new int[BARS];
        final int[] low = new int[SINGERS];
        final int[] high = new int[SINGERS];
        final int[] breath = new int[SINGERS];

        void clear() {
            floors = 0;
            bars = 0;
            singers = 0;
            step = 9;
            walled = 0;
        }

        void copy(House other) {
            floors = other.floors;
            bars = other.bars;
            singers = other.singers;
            step = other.step;
            walled = other.walled;
            System.arraycopy(other.rent, 0, rent, 0, FLOORS);
            System.arraycopy(other.people, 0, people, 0, FLOORS);
            System.arraycopy(other.note, 0, note, 0, BARS);
            System.arraycopy(other.length, 0, length, 0, BARS);
            System.arraycopy(other.ground, 0, ground, 0, BARS);
            System.arraycopy(other.risk, 0, risk, 0, BARS);
            System.arraycopy(other.low, 0, low, 0, SINGERS);
            System.arraycopy(other.high, 0, high, 0, SINGERS);
            System.arraycopy(other.breath, 0, breath, 0, SINGERS);
        }

        void addFloor(int itsRent, int itsPeople) {
            if (floors >= 0 && floors < FLOORS) {
                rent[floors] = itsRent;
                people[floors] = itsPeople;
                floors++;
            }
        }

        void addBar(int itsNote, int itsLength, int itsFloor, int itsRisk) {
            if (bars >= 0 && bars < BARS) {
                note[bars] = itsNote;
                length[bars] = itsLength;
                ground[bars] = itsFloor;
                risk[bars] = itsRisk;
                bars++;
            }
        }

        void addSinger(int itsLow, int itsHigh, int itsBreath) {
            if (singers >= 0 && singers < SINGERS) {
                low[singers] = itsLow;
                high[singers] = itsHigh;
                breath[singers] = itsBreath;
                singers++;
            }
        }

        boolean hasFloor(int f) {
            return f >= 0 && f < floors && f < FLOORS;
        }

        boolean hasBar(int b) {
            return b >= 0 && b < bars && b < BARS;
        }

        boolean hasSinger(int s) {
            return s >= 0 && s < singers && s < SINGERS;
        }

        /** Whether all floors and bars that were told of are there. */
        boolean isWhole() {
            for (int b = 0; b < bars && b < BARS; b++) {
                if (ground[b] >= floors) {
                    return false;
                }
            }
            return walled >> bars == 0;
        }

        int detail(int what) {
            if (what < 10 || what > 99) {
                return NONE;
            }
            int k = what % 10;
            switch (what / 10) {
                case 1:
                    return hasFloor(k) ? rent[k] : NONE;
                case 2:
                    return hasFloor(k) ? people[k] : NONE;
                case 3:
                    return hasBar(k) ? note[k] : NONE;
                case 4:
                    return hasBar(k) ? length[k] : NONE;
                case 5:
                    return hasBar(k) ? ground[k] : NONE;
                case 6:
                    return hasBar(k) ? risk[k] : NONE;
                case 7:
                    return hasSinger(k) ? low[k] : NONE;
                case 8:
                    return hasSinger(k) ? high[k] : NONE;
                default:
                    return hasSinger(k) ? breath[k] : NONE;
            }
        }

        /** Whether there is such a bar, and it is no rest. */
        boolean sounds(int b) {
            return hasBar(b) && note[b] != 0;
        }

        /** The first bar from there on that is no rest. */
        int nextFrom(int start) {
            for (int b = start; b < bars; b++) {
                if (sounds(b)) {
                    return b;
                }
            }
            return NONE;
        }

        boolean reaches(int s, int itsNote, boolean cold) {
            return s >= 0 && s < singers && s < SINGERS && itsNote >= low[s] && itsNote <= high[s] - (cold ? COLD_LOSS : 0);
        }

        int everybody() {
            return (1 << singers) - 1;
        }

        /** Notes that any of these singers reaches, as bits. */
        int notesOf(int whom) {
            int bits = 0;
            for (int s = 0; s < SINGERS; s++) {
                for (int n = 1; n <= NOTES; n++) {
                    if ((whom >> s & 1) != 0 && reaches(s, n, false)) {
                        bits |= 1 << n;
                    }
                }
            }
            return bits;
        }

        int notesSung() {
            int bits = 0;
            for (int b = 0; b < BARS; b++) {
                if (sounds(b)) {
                    bits |= 1 << note[b];
                }
            }
            return bits;
        }

        /** How many bars anybody reaches if all notes are that much more. */
        int reachedBy(int more) {
            int reached = notesOf(everybody());
            int sum = 0;
            for (int b = 0; b < BARS; b++) {
                int itsNote = at(note, b) + more;
                if (sounds(b) && itsNote >= 1 && itsNote <= NOTES && (reached >> itsNote & 1) != 0) {
                    sum++;
                }
            }
            return sum;
        }

        int mutes() {
            int reached = notesOf(everybody());
            int bits = 0;
            for (int b = 0; b < BARS; b++) {
                if (sounds(b) && (reached >> note[b] & 1) == 0) {
                    bits |= 1 << b;
                }
            }
            return bits;
        }

        /** That floor and all above, as bits. */
        int from(int f) {
            return (1 << floors) - 1 & -1 << f;
        }

        int peopleOf(int bits) {
            int sum = 0;
            for (int f = 0; f < floors && f < FLOORS; f++) {
                sum += (bits >> f & 1) * people[f];
            }
            return sum;
        }

        int rentsOf(int bits) {
            int sum = 0;
            for (int f = 0; f < floors && f < FLOORS; f++) {
                sum += (bits >> f & 1) * rent[f];
            }
            return sum;
        }

        int roofOf(int b) {
            return sounds(b) ? peopleOf(from(at(ground, b))) : 0;
        }

        int quietest() {
            int best = NONE;
            for (int b = 0; b < BARS; b++) {
                if (sounds(b) && (best == NONE || roofOf(b) < roofOf(best))) {
                    best = b;
                }
            }
            return best;
        }

        int notesOn(int floor) {
            int sum = 0;
            for (int b = 0; b < BARS; b++) {
                if (sounds(b) && ground[b] == floor) {
                    sum++;
                }
            }
            return sum;
        }

        int busiest() {
            int best = NONE;
            for (int f = 0; f < floors && f < FLOORS; f++) {
                if (best == NONE || notesOn(f) > notesOn(best)) {
                    best = f;
                }
            }
            return best;
        }

        /** Whether two rows of bars are the same by note and length. */
        boolean alike(int one, int two, int many) {
            for (int i = 0; i < many; i++) {
                if (at(note, one + i) != at(note, two + i) || at(length, one + i) != at(length, two + i)) {
                    return false;
                }
            }
            return true;
        }
    }

    /** Reads a text into a house or rows of its own, so that a fault leaves what was told as it was. */
    private static final class Reader {
        private static final int THE_END = 0;
        private static final int A_WORD = 1;
        private static final int A_NUMBER = 2;
        private static final int A_STOP = 3;
        private static final int NO_TOKEN = 4;

        private static final int FLOOR_LINE = 0;
        private static final int BAR_LINE = 1;
        private static final int SINGER_LINE = 2;
        private static final int STEP_LINE = 3;
        private static final int WALL_LINE = 4;
        private static final int FIRST_DEED = 5;
        private static final int FIRST_FACT = 10;
        private static final int LINES = 12;

        private static final int WIDEST = 4;
        private static final int[] NUMBERS = {2, 4, 3, 1, 1, 1, 1, 1, 0, 0, 1, 1};
        private static final int[] LEAST = {
            0, 1, 0, 0, 0, 1, 0, 0, 1, 1, 1, 0, 0, 0, 0, 0, 0, 0, 0, 0,
            0, 0, 0, 0, 0, 0, 0, 0, 0, 0, 0, 0, 0, 0, 0, 0, 0, 0, 0, 0,
            0, 0, 0, 0, 0, 0, 0, 0};
        private static final int[] MOST = {
            20, 9, 0, 0, 9, 4, 5, 10, 9, 9, 20, 0, 9, 0, 0, 0, 7, 0, 0, 0,
            4, 0, 0, 0, 4, 0, 0, 0, 4, 0, 0, 0, 0, 0, 0, 0, 0, 0, 0, 0,
            5, 0, 0, 0, 5, 0, 0, 0};

        final House house = new House();
        final Rows rows = new Rows(DEEDS);
        int fault = 0;
        int place = NONE;
        private byte[] tape = null;
        private int size = 0;
        private int token = THE_END;
        private int start = 0;
        private int behind = 0;
        private int value = 0;
        private final int[] numbers = new int[WIDEST];

        void read(byte[] bytes, int many, int sort) {
            house.clear();
            rows.size = 0;
            fault = 0;
            place = NONE;
            tape = bytes;
            size = many;
            behind = 0;
            advance();
            for (int line = 0; line <= TAPE && token != THE_END && fault != 1; line++) {
                readLine(sort);
            }
            if (fault == 0 && !house.isWhole()) {
                blame(4, size);
            }
        }

        private void readLine(int sort) {
            int line = lineOf(sort);
            if (line == NONE) {
                breakOff();
                return;
            }
            if (isFull(line, sort)) {
                blame(3, start);
            }
            advance();
            for (int i = 0; i < at(NUMBERS, line) && i < WIDEST; i++) {
                if (token != A_NUMBER) {
                    breakOff();
                    return;
                }
                numbers[i] = value;
                if (!canBe(line, i)) {
                    blame(2, start);
                }
                advance();
            }
            if (token != A_STOP) {
                breakOff();
                return;
            }
            advance();
            keepLine(line);
        }

        /** No text goes on so: this fault is told before all others, wherever they are. */
        private void breakOff() {
            fault = 1;
            place = start;
        }

        /** Lines are read by place, so the first that is blamed stays. */
        private void blame(int what, int where) {
            if (fault == 0) {
                fault = what;
                place = where;
            }
        }

        private boolean canBe(int line, int i) {
            int n = at(numbers, i);
            boolean belowLow = line == SINGER_LINE && i == 1 && n < numbers[0];
            return !belowLow && n >= at(LEAST, line * WIDEST + i) && n <= at(MOST, line * WIDEST + i);
        }

        private boolean isFull(int line, int sort) {
            switch (line) {
                case FLOOR_LINE:
                    return house.floors >= FLOORS;
                case BAR_LINE:
                    return house.bars >= BARS;
                case SINGER_LINE:
                    return house.singers >= SINGERS;
                case STEP_LINE:
                case WALL_LINE:
                    return false;
                default:
                    return rows.size >= (sort == OF_NIGHTS ? DEEDS : FACTS);
            }
        }

        private void keepLine(int line) {
            switch (line) {
                case FLOOR_LINE:
                    house.addFloor(numbers[0], numbers[1]);
                    break;
                case BAR_LINE:
                    house.addBar(numbers[0], numbers[1], numbers[2], numbers[3]);
                    break;
                case SINGER_LINE:
                    house.addSinger(numbers[0], numbers[1], numbers[2]);
                    break;
                case STEP_LINE:
                    house.step = numbers[0];
                    break;
                case WALL_LINE:
                    house.walled |= numbers[0] < BARS ? 1 << numbers[0] : 0;
                    break;
                default:
                    int kind = line - (line < FIRST_FACT ? FIRST_DEED : FIRST_FACT);
                    rows.add(kind, at(NUMBERS, line) == 0 ? NONE : numbers[0]);
                    break;
            }
        }

        /** The sort's line that the token begins. */
        private int lineOf(int sort) {
            int first = sort == OF_HOUSES ? 0 : sort == OF_NIGHTS ? FIRST_DEED : FIRST_FACT;
            int last = sort == OF_HOUSES ? FIRST_DEED : sort == OF_NIGHTS ? FIRST_FACT : LINES;
            for (int line = first; line < last; line++) {
                if (token == A_WORD && isWord(wordOf(line))) {
                    return line;
                }
            }
            return NONE;
        }

        private static String wordOf(int line) {
            switch (line) {
                case FLOOR_LINE:
                    return "floor";
                case BAR_LINE:
                    return "bar";
                case SINGER_LINE:
                    return "singer";
                case STEP_LINE:
                    return "step";
                case WALL_LINE:
                    return "wall";
                case FIRST_DEED + SING:
                    return "sing";
                case FIRST_DEED + COLD:
                    return "cold";
                case FIRST_DEED + WELL:
                    return "well";
                case FIRST_DEED + SKIP:
                    return "skip";
                case FIRST_DEED + NIGHT:
                    return "night";
                case FIRST_FACT:
                    return "dreamt";
                default:
                    return "calm";
            }
        }

        private boolean isWord(String word) {
            if (behind - start != word.length()) {
                return false;
            }
            for (int i = 0; i < word.length(); i++) {
                if (byteAt(start + i) != word.charAt(i)) {
                    return false;
                }
            }
            return true;
        }

        private int byteAt(int i) {
            return tape != null && i >= 0 && i < size && i < tape.length ? tape[i] & 255 : NONE;
        }

        private static boolean isLetter(int sign) {
            return sign >= 'a' && sign <= 'z';
        }

        private static boolean isDigit(int sign) {
            return sign >= '0' && sign <= '9';
        }

        private void advance() {
            start = behind;
            while (start < size && (byteAt(start) == 10 || byteAt(start) == 32)) {
                start++;
            }
            behind = start;
            value = 0;
            int sign = byteAt(start);
            if (start >= size) {
                token = THE_END;
            } else if (isLetter(sign)) {
                token = A_WORD;
                while (behind < size && isLetter(byteAt(behind))) {
                    behind++;
                }
            } else if (isDigit(sign)) {
                while (behind < size && isDigit(byteAt(behind))) {
                    value = Math.min(999, value * 10 + byteAt(behind) - '0');
                    behind++;
                }
                token = behind - start <= 2 ? A_NUMBER : NO_TOKEN;
            } else {
                token = sign == ';' ? A_STOP : NO_TOKEN;
                behind++;
            }
        }
    }

    /** Looks for rotas; what it found stays in its row, and what breath is left, until the next look. */
    private static final class Rota {
        private static final int ANYBODY = 127;

        private House house = new House();
        private int bars = 0;
        private int singers = 0;
        private final int[] left = new int[SINGERS + 1];
        private final int[] row = new int[BARS];
        private final int[] open = new int[BARS + 1];

        /** The singers of a house come with that much more breath than they have, but with no more than the most. */
        private void seat(House h, int loan, int most) {
            house = h;
            singers = Math.min(h.singers, SINGERS);
            for (int s = 0; s < singers; s++) {
                left[s] = Math.min(most, at(h.breath, s) + loan);
            }
        }

        /** Who has no breath sings no bar: each is 1 long or longer. */
        private void sendOutAllBut(int bits) {
            for (int s = 0; s < singers; s++) {
                if ((bits >> s & 1) == 0) {
                    left[s] = 0;
                }
            }
        }

        /** One more singer, behind all others, who reaches all notes. */
        private void takeIn(int breath) {
            if (singers == house.singers && singers <= SINGERS) {
                left[singers] = breath;
                singers++;
            }
        }

        private boolean fills(int many) {
            return prepares(many) && places(0);
        }

        /**
         * Tells, for each bar, who may sing it so that all bars behind it can be sung, too, as far as
         * notes, neighbours and breath for this one bar go: most of what can't be is seen here at once.
         */
        private boolean prepares(int many) {
            bars = Math.max(0, Math.min(many, Math.min(house.bars, BARS)));
            open[bars] = ANYBODY;
            int needed = 0;
            for (int b = bars - 1; b >= 0; b--) {
                boolean sounds = house.sounds(b);
                needed += sounds ? at(house.length, b) : 0;
                open[b] = open[b + 1] == 0 ? 0 : ANYBODY;
                for (int s = 0; sounds && s <= SINGERS + 1; s++) {
                    if (!canTake(s, b) || (open[b + 1] & ~(1 << s)) == 0) {
                        open[b] &= ~(1 << s);
                    }
                }
            }
            for (int s = 0; s < singers; s++) {
                needed -= at(left, s);
            }
            return open[0] != 0 && needed <= 0;
        }

        private boolean canTake(int s, int b) {
            boolean hired = s == house.singers;
            return s < singers && at(left, s) >= at(house.length, b)
                && (hired || house.reaches(s, at(house.note, b), false));
        }

        private boolean maySing(int s, int b) {
            return s >= 0 && s < left.length && (at(open, b) >> s & 1) != 0
                && left[s] >= at(house.length, b) && (b == 0 || at(row, b - 1) != s);
        }

        private boolean places(int b) {
            if (b < 0 || b >= bars || b >= BARS) {
                return true;
            }
            row[b] = NONE;
            if (!house.sounds(b)) {
                return places(b + 1);
            }
            int itsLength = at(house.length, b);
            for (int s = 0; s < singers && s < left.length; s++) {
                if (maySing(s, b)) {
                    row[b] = s;
                    left[s] -= itsLength;
                    if (places(b + 1)) {
                        return true;
                    }
                    left[s] += itsLength;
                }
            }
            row[b] = NONE;
            return false;
        }

        private int counts(int b) {
            if (b < 0 || b >= bars || b >= BARS) {
                return 1;
            }
            row[b] = NONE;
            if (!house.sounds(b)) {
                return counts(b + 1);
            }
            int sum = 0;
            int itsLength = at(house.length, b);
            for (int s = 0; s < singers && s < left.length; s++) {
                if (maySing(s, b)) {
                    row[b] = s;
                    left[s] -= itsLength;
                    sum = Math.min(MOST_ROTAS, sum + counts(b + 1));
                    left[s] += itsLength;
                }
            }
            return sum;
        }

        boolean finds(House h) {
            seat(h, 0, MOST_BREATH);
            return fills(BARS);
        }

        int all(House h) {
            seat(h, 0, MOST_BREATH);
            return prepares(BARS) ? counts(0) : 0;
        }

        /** Of the row that was found: 5 for a rest. */
        int singerOf(int b) {
            return house.sounds(b) ? at(row, b) : NOBODY;
        }

        int barsOf(int s) {
            int sum = 0;
            for (int b = 0; b < bars; b++) {
                if (at(row, b) == s) {
                    sum++;
                }
            }
            return sum;
        }

        int breathOf(int s) {
            return at(left, s);
        }

        /** Floors that dream by the row that was found, if that singer has a cold. */
        int coldDreams(int s) {
            int bits = 0;
            for (int b = 0; b < bars; b++) {
                if (house.sounds(b) && at(row, b) == s && !house.reaches(s, at(house.note, b), true)) {
                    bits |= 1 << at(house.ground, b);
                }
            }
            return bits;
        }

        int fewest(House h) {
            for (int many = 0; many <= h.singers; many++) {
                for (int bits = 0; bits <= h.everybody(); bits++) {
                    if (Integer.bitCount(bits) == many) {
                        seat(h, 0, MOST_BREATH);
                        sendOutAllBut(bits);
                        if (fills(BARS)) {
                            return bits;
                        }
                    }
                }
            }
            return NONE;
        }

        int farWith(House h, int loan) {
            for (int many = h.bars; many > 0; many--) {
                seat(h, loan, MOST_BREATH + loan);
                if (fills(many)) {
                    return many;
                }
            }
            return 0;
        }

        int spares(House h) {
            int bits = 0;
            for (int s = 0; s < h.singers; s++) {
                seat(h, 0, MOST_BREATH);
                sendOutAllBut(~(1 << s));
                if (fills(BARS)) {
                    bits |= 1 << s;
                }
            }
            return bits;
        }

        int cure(House h) {
            for (int loan = 0; loan <= MOST_BREATH; loan++) {
                seat(h, loan, MOST_BREATH + loan);
                if (fills(BARS)) {
                    return loan;
                }
            }
            return NONE;
        }

        /** The least that nobody must go beyond; the row found is the first by it. */
        int easiest(House h) {
            for (int most = 0; most <= MOST_BREATH; most++) {
                seat(h, 0, most);
                if (fills(BARS)) {
                    return most;
                }
            }
            return NONE;
        }

        int hired(House h) {
            for (int breath = 0; breath <= MOST_BREATH; breath++) {
                seat(h, 0, MOST_BREATH);
                takeIn(breath);
                if (fills(BARS)) {
                    return breath;
                }
            }
            return NONE;
        }
    }

    /** Nights in a house, deed by deed. */
    private static final class Night {
        private House house = new House();
        private int night = 0;
        private int next = NONE;
        private int awake = 0;
        private int woken = 0;
        private int paid = 0;
        private int dreams = 0;
        private int colds = 0;
        private int dreaming = 0;
        private int barAhead = NONE;
        private int singerAhead = NONE;
        private final int[] left = new int[SINGERS];
        private final int[] times = new int[SINGERS];
        private int seed = 0;
        private int done = 0;
        private int worstWoken = 0;
        int firstDream = NONE;
        int worst = NONE;
        int calms = 0;

        private void enter(House h) {
            house = h;
            night = 0;
            woken = 0;
            paid = 0;
            dreams = 0;
            colds = 0;
            done = 0;
            worstWoken = 0;
            firstDream = NONE;
            worst = NONE;
            calms = 0;
            Arrays.fill(times, 0);
            beginNight();
        }

        private void beginNight() {
            next = house.nextFrom(0);
            awake = 0;
            dreaming = 0;
            barAhead = NONE;
            singerAhead = NONE;
            for (int s = 0; s < SINGERS; s++) {
                left[s] = at(house.breath, s);
            }
        }

        /** Does the first deeds, as many as are wanted and can be: how many were. */
        int play(House h, Rows deeds, int many) {
            enter(h);
            for (int k = 0; k < many && k < deeds.size; k++) {
                if (!does(at(deeds.kinds, k), at(deeds.numbers, k))) {
                    return k;
                }
            }
            return many;
        }

        void draw(House h, int start, int many) {
            enter(h);
            seed = start;
            for (int k = 0; k < many; k++) {
                drawDeed();
            }
        }

        private void drawDeed() {
            int number = below(8);
            if (number == 6) {
                does(SKIP, NONE);
            } else if (number == 7) {
                does(NIGHT, NONE);
            } else if (house.singers > 0) {
                int kind = number < 5 ? SING : below(2) == 0 ? COLD : WELL;
                does(kind, below(house.singers));
            }
        }

        private int below(int bound) {
            seed = seed * 1103515245 + 12345;
            return bound > 0 ? (seed >>> 16) % bound : 0;
        }

        /** Does a deed, if it can be: whether it could. */
        private boolean does(int kind, int number) {
            if (!may(kind, number)) {
                return false;
            }
            switch (kind) {
                case SING:
                    singNext(number);
                    break;
                case COLD:
                    colds |= 1 << number;
                    break;
                case WELL:
                    colds &= ~(1 << number);
                    break;
                case SKIP:
                    awake |= house.from(at(house.ground, next));
                    goOn(NONE);
                    break;
                default:
                    endNight();
                    break;
            }
            done++;
            return true;
        }

        private boolean may(int kind, int number) {
            switch (kind) {
                case SING:
                    return next != NONE && house.hasSinger(number) && number != sangAhead()
                        && at(left, number) >= at(house.length, next);
                case COLD:
                case WELL:
                    return house.hasSinger(number);
                case SKIP:
                    return next != NONE;
                default:
                    return night < MOST_NIGHT;
            }
        }

        private void singNext(int s) {
            if (s < 0 || s >= SINGERS) {
                return;
            }
            left[s] -= at(house.length, next);
            times[s]++;
            if (!house.reaches(s, at(house.note, next), (colds >> s & 1) != 0)) {
                dreaming |= 1 << at(house.ground, next);
                dreams++;
                firstDream = firstDream == NONE ? done : firstDream;
            }
            goOn(s);
        }

        private void goOn(int s) {
            barAhead = next;
            singerAhead = s;
            next = house.nextFrom(next + 1);
        }

        private void endNight() {
            for (int b = next == NONE ? BARS : next; b < BARS; b++) {
                if (house.sounds(b)) {
                    awake |= house.from(at(house.ground, b));
                }
            }
            int wokenNow = house.peopleOf(awake);
            woken += wokenNow;
            paid += house.rentsOf(~awake);
            calms += wokenNow == 0 ? 1 : 0;
            if (worst == NONE || wokenNow > worstWoken) {
                worst = night;
                worstWoken = wokenNow;
            }
            night++;
            beginNight();
        }

        /** Who sang the bar just ahead of the next one: a rest between leaves nobody. */
        private int sangAhead() {
            return next != NONE && barAhead != NONE && next == barAhead + 1 ? singerAhead : NONE;
        }

        int hoarsest() {
            int best = NONE;
            for (int s = 0; s < SINGERS; s++) {
                if (times[s] > 0 && (best == NONE || times[s] > at(times, best))) {
                    best = s;
                }
            }
            return best;
        }

        int look(int what) {
            switch (what) {
                case 0:
                    return night;
                case 1:
                    return next;
                case 2:
                    return awake;
                case 3:
                    return woken;
                case 4:
                    return paid;
                case 5:
                    return dreams;
                case 6:
                    return colds;
                case 7:
                    return sangAhead();
                case 8:
                    return dreaming;
                default:
                    return what >= 10 && house.hasSinger(what - 10) ? at(left, what - 10) : MISSING;
            }
        }
    }

    /** Who wakes by chance: likelihoods are told as parts of 100,000,000, a tenth for each bar there may be. */
    private static final class Chance {
        private static final long WHOLE = 100000000L;
        private static final int TENTHS = 10;

        private House house = new House();
        private final int[] ground = new int[BARS];

        /** The floors of bars are its own, so that a change can be tried. */
        void enter(House h) {
            house = h;
            System.arraycopy(h.ground, 0, ground, 0, BARS);
        }

        static long part(long parts, boolean under) {
            long divisor = WHOLE;
            long rest = parts;
            for (int i = 0; i < 100 && rest > 0; i++) {
                long last = divisor % rest;
                divisor = rest;
                rest = last;
            }
            if (divisor <= 0) {
                return NONE;
            }
            return under ? WHOLE / divisor : parts / divisor;
        }

        long asleep(int floor) {
            long parts = 1;
            for (int b = 0; b < BARS; b++) {
                boolean wakes = house.sounds(b) && ground[b] <= floor;
                parts *= wakes ? TENTHS - at(house.risk, b) : TENTHS;
            }
            return parts;
        }

        long mean() {
            long sum = 0;
            for (int f = 0; f < house.floors; f++) {
                sum += at(house.people, f) * (WHOLE - asleep(f));
            }
            return sum;
        }

        /** That many are awake just if the highest floor from which there are so many up is. */
        long atLeast(int many) {
            if (many <= 0) {
                return WHOLE;
            }
            for (int f = house.floors - 1; f >= 0; f--) {
                if (house.peopleOf(house.from(f)) >= many) {
                    return WHOLE - asleep(f);
                }
            }
            return 0;
        }

        int bestSwap() {
            long least = mean();
            int best = NONE;
            for (int one = 0; one < house.bars; one++) {
                for (int two = one + 1; two < house.bars; two++) {
                    swap(one, two);
                    long trial = mean();
                    swap(one, two);
                    if (trial < least) {
                        least = trial;
                        best = 10 * one + two;
                    }
                }
            }
            return best;
        }

        private void swap(int one, int two) {
            if (one >= 0 && one < BARS && two >= 0 && two < BARS) {
                int held = ground[one];
                ground[one] = ground[two];
                ground[two] = held;
            }
        }
    }

    /** The landlord and the house by turns. */
    private static final class Tussle {
        private static final int NO_BAR = 8;

        private House house = new House();
        private int turns = 0;
        private int skipped = 0;
        private int unpaid = 0;
        int worth = 0;
        int opening = NONE;

        void play(House h, int many) {
            house = h;
            turns = Math.min(many, MOST_TURNS);
            skipped = 0;
            unpaid = 0;
            opening = NONE;
            worth = landlordFrom(0);
        }

        /** The best that is still to come for the landlord, whose turn it is. */
        private int landlordFrom(int turn) {
            if (turn >= turns) {
                return 0;
            }
            int best = houseFrom(turn + 1);
            int choice = NO_BAR;
            for (int b = BARS - 1; b >= 0; b--) {
                if (house.sounds(b) && (skipped >> b & 1) == 0) {
                    skipped |= 1 << b;
                    int trial = at(house.length, b) + houseFrom(turn + 1);
                    skipped &= ~(1 << b);
                    // Downwards, with equals taken: the least of the best stays.
                    if (trial >= best) {
                        best = trial;
                        choice = b;
                    }
                }
            }
            if (turn == 0) {
                opening = choice;
            }
            return best;
        }

        private int houseFrom(int turn) {
            if (turn >= turns) {
                return 0;
            }
            int awake = awakeNow();
            int best = landlordFrom(turn + 1);
            for (int f = 0; f < house.floors; f++) {
                if ((awake >> f & 1) != 0 && (unpaid >> f & 1) == 0) {
                    unpaid |= 1 << f;
                    best = Math.min(best, landlordFrom(turn + 1) - at(house.rent, f));
                    unpaid &= ~(1 << f);
                }
            }
            return best;
        }

        private int awakeNow() {
            int bits = 0;
            for (int b = 0; b < BARS; b++) {
                if ((skipped >> b & 1) != 0) {
                    bits |= house.from(at(house.ground, b));
                }
            }
            return bits;
        }
    }

    /** What walled bars could be. */
    private static final class Tunes {
        private House house = new House();
        private final int[] fixed = new int[BARS];
        private final int[] ways = new int[NOTES + 1];
        private final int[] further = new int[NOTES + 1];

        void enter(House h) {
            house = h;
            free();
        }

        /** Walled bars are free (0), all others are as told. */
        private void free() {
            for (int b = 0; b < BARS; b++) {
                fixed[b] = isWalled(b) ? 0 : at(house.note, b);
            }
        }

        private boolean isWalled(int b) {
            return (house.walled >> b & 1) != 0;
        }

        /** How many rows there are with what is fixed; a rest parts its neighbours, so that step does not bind them. */
        int rows() {
            int many = 1;
            boolean bound = false;
            for (int b = 0; b < house.bars && b < BARS; b++) {
                boolean notes = isWalled(b) || house.sounds(b);
                if (notes) {
                    many = goTo(b, bound, many);
                }
                bound = notes;
            }
            return many;
        }

        /** Of rows up to a bar: how many; a bar that is not bound may come behind all rows ahead of it. */
        private int goTo(int b, boolean bound, int ahead) {
            int sum = 0;
            for (int n = 1; n <= NOTES; n++) {
                boolean can = at(fixed, b) == 0 || at(fixed, b) == n;
                further[n] = !can ? 0 : bound ? waysNear(n) : ahead;
                sum += further[n];
            }
            System.arraycopy(further, 0, ways, 0, NOTES + 1);
            return sum;
        }

        private int waysNear(int note) {
            int sum = 0;
            for (int n = 1; n <= NOTES; n++) {
                sum += Math.abs(n - note) <= house.step ? ways[n] : 0;
            }
            return sum;
        }

        /** The k-th of the first row: each walled bar is fixed as low as rows are left, the first ones first. */
        int leastOf(int k) {
            int least = NONE;
            for (int i = 0; i <= k && i < BARS; i++) {
                least = lowest(bitAt(house.walled, i));
            }
            free();
            return least;
        }

        private int lowest(int b) {
            if (b < 0 || b >= BARS) {
                return NONE;
            }
            for (int n = 1; n <= NOTES; n++) {
                fixed[b] = n;
                if (rows() > 0) {
                    return n;
                }
            }
            return NONE;
        }

        int sureOf(int k) {
            int b = bitAt(house.walled, k);
            if (b < 0 || b >= BARS) {
                return NONE;
            }
            int found = NONE;
            int many = 0;
            for (int n = 1; n <= NOTES; n++) {
                fixed[b] = n;
                if (rows() > 0) {
                    found = n;
                    many++;
                }
            }
            free();
            return many == 1 ? found : NONE;
        }
    }

    /** Whose cold it was, by who dreamt. */
    private static final class Morning {
        private final int[] dreams = new int[SINGERS + 1];
        /** Singers that fit, as bits; the bit of 5 is nobody's. */
        int fitting = 0;

        void judge(House h, Rows facts, Rota found) {
            fitting = 0;
            for (int s = 0; s <= NOBODY && s < dreams.length; s++) {
                dreams[s] = s == NOBODY ? 0 : found.coldDreams(s);
                if ((s == NOBODY || h.hasSinger(s)) && agree(dreams[s], facts)) {
                    fitting |= 1 << s;
                }
            }
        }

        private static boolean agree(int dreamt, Rows facts) {
            for (int k = 0; k < facts.size; k++) {
                boolean calm = at(facts.kinds, k) != 0;
                boolean was = (dreamt >> at(facts.numbers, k) & 1) == 0;
                if (calm != was) {
                    return false;
                }
            }
            return true;
        }

        /** The floor to ask about: by its answer the fewest are left at worst. */
        int question(House h) {
            int best = NONE;
            int least = 0;
            for (int f = 0; f < h.floors && fitting != 0; f++) {
                int worst = leftAtWorst(f);
                if (best == NONE || worst < least) {
                    best = f;
                    least = worst;
                }
            }
            return best;
        }

        private int leftAtWorst(int floor) {
            int dreamt = 0;
            int calm = 0;
            for (int s = 0; s <= NOBODY; s++) {
                int fits = fitting >> s & 1;
                int dreamtIt = at(dreams, s) >> floor & 1;
                dreamt += fits * dreamtIt;
                calm += fits * (1 - dreamtIt);
            }
            return Math.max(dreamt, calm);
        }
    }
}
