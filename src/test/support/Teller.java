import java.nio.charset.StandardCharsets;

/** Tells texts to a LullabyHouse by feed(), end() and text(). */
final class Teller {
    private Teller() {
    }

    static void tape(LullabyHouse x, String text) {
        tape(x, text.getBytes(StandardCharsets.ISO_8859_1));
    }

    static void tape(LullabyHouse x, byte[] bytes) {
        x.end(0);
        for (int from = 0; from < bytes.length; from += 20) {
            int[] n = new int[5];
            for (int i = 0; i < 20; i++) {
                int one = from + i < bytes.length ? bytes[from + i] & 255 : 0;
                n[i / 4] = n[i / 4] << 8 | one;
            }
            x.feed(n[0], n[1], n[2], n[3], n[4]);
        }
        x.end(bytes.length);
    }

    static int tell(LullabyHouse x, int sort, int at, String text) {
        tape(x, text);
        return x.text(sort, at);
    }

    static LullabyHouse with(String house) {
        LullabyHouse x = new LullabyHouse();
        tell(x, 0, -1, house);
        return x;
    }
}
