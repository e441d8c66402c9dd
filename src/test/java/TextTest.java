import java.nio.charset.StandardCharsets;
import java.util.ArrayList;
import java.util.List;
import java.util.Map;
import java.util.Random;
import java.util.regex.Matcher;
import java.util.regex.Pattern;

/** Random texts, most of them spoilt somewhere: the fault and its place, against a second reader by patterns. */
public final class TextTest {
    private static final Pattern TOKEN = Pattern.compile("[a-z]+|[0-9]+|[^ \n]", Pattern.DOTALL);
    /** The words of each sort, each with the least and the most of its numbers. */
    private static final List<Map<String, int[][]>> WORDS = List.of(
        Map.of("floor", new int[][] {{0, 20}, {1, 9}},
            "bar", new int[][] {{0, 9}, {1, 4}, {0, 5}, {0, 10}},
            "singer", new int[][] {{1, 9}, {1, 9}, {1, 20}},
            "step", new int[][] {{0, 9}},
            "wall", new int[][] {{0, 7}}),
        Map.of("sing", new int[][] {{0, 4}}, "cold", new int[][] {{0, 4}}, "well", new int[][] {{0, 4}},
            "skip", new int[][] {}, "night", new int[][] {}),
        Map.of("dreamt", new int[][] {{0, 5}}, "calm", new int[][] {{0, 5}}));
    private static final Map<String, Integer> MOST = Map.of("floor", 6, "bar", 8, "singer", 5);
    private static final Random RANDOM = new Random(7);
    private static final int[] SEEN = new int[5];

    private TextTest() {
    }

    public static void main(String[] args) {
        for (int k = 0; k < 60000; k++) {
            int sort = k % 3;
            String text = spoil(sound(sort), k);
            if (text.length() <= 600) {
                compare(sort, text);
            }
        }
        for (int fault = 0; fault < 5; fault++) {
            Check.due("fault " + fault + " was seen often", SEEN[fault] > 300, true);
        }
        Check.end();
    }

    private static void compare(int sort, String text) {
        LullabyHouse x = new LullabyHouse();
        int got = Teller.tell(x, sort, -1, text);
        int[] want = read(sort, text);
        SEEN[want[0]]++;
        String call = "text(" + sort + ") of '" + text.replace("\n", "\\n") + "' ";
        Check.due(call, got, want[0] == 0 ? 0 : -1);
        Check.due(call + "fault(0)", x.fault(0), want[0]);
        Check.due(call + "fault(1)", x.fault(1), want[0] == 0 ? -1 : want[1]);
        Check.due(call + "count", x.count(sort), want[0] == 0 ? 1 : 0);
        Check.due(call + "tape", x.end(1), -1);
    }

    /** The fault and its place. */
    private static int[] read(int sort, String text) {
        List<String> tokens = new ArrayList<>();
        List<Integer> places = new ArrayList<>();
        Matcher matcher = TOKEN.matcher(text);
        while (matcher.find()) {
            tokens.add(matcher.group());
            places.add(matcher.start());
        }
        tokens.add("");
        places.add(text.length());
        int[] fault = {0, -1};
        java.util.Map<String, Integer> told = new java.util.HashMap<>();
        int highestFloor = -1;
        int highestBar = -1;
        int i = 0;
        while (!tokens.get(i).isEmpty()) {
            String word = tokens.get(i);
            int[][] numbers = WORDS.get(sort).get(word);
            if (numbers == null) {
                return new int[] {1, places.get(i)};
            }
            String kind = sort == 0 ? word : "all";
            int most = sort == 0 ? MOST.getOrDefault(word, 999) : sort == 1 ? 40 : 8;
            told.merge(kind, 1, Integer::sum);
            if (told.get(kind) > most) {
                fault = first(fault, 3, places.get(i));
            }
            int[] values = new int[numbers.length];
            i++;
            for (int n = 0; n < numbers.length; n++, i++) {
                if (!tokens.get(i).matches("[0-9]{1,2}")) {
                    return new int[] {1, places.get(i)};
                }
                values[n] = Integer.parseInt(tokens.get(i));
                boolean below = word.equals("singer") && n == 1 && values[1] < values[0];
                if (values[n] < numbers[n][0] || values[n] > numbers[n][1] || below) {
                    fault = first(fault, 2, places.get(i));
                }
            }
            if (!tokens.get(i).equals(";")) {
                return new int[] {1, places.get(i)};
            }
            i++;
            highestFloor = Math.max(highestFloor, word.equals("bar") ? values[2] : -1);
            highestBar = Math.max(highestBar, word.equals("wall") ? values[0] : -1);
        }
        if (highestFloor >= told.getOrDefault("floor", 0) || highestBar >= told.getOrDefault("bar", 0)) {
            fault = first(fault, 4, text.length());
        }
        return fault;
    }

    private static int[] first(int[] old, int fault, int place) {
        return old[0] == 0 ? new int[] {fault, place} : old;
    }

    private static String sound(int sort) {
        List<String> words = new ArrayList<>(WORDS.get(sort).keySet());
        words.sort(null);
        StringBuilder text = new StringBuilder();
        int lines = RANDOM.nextInt(4) == 0 ? RANDOM.nextInt(45) : RANDOM.nextInt(9);
        if (sort == 0 && RANDOM.nextInt(3) != 0) {
            text.append("floor 1 1;floor 20 9;bar 1 1 0 0;");
        }
        for (int k = 0; k < lines; k++) {
            String word = words.get(RANDOM.nextInt(words.size()));
            text.append(word);
            for (int[] bounds : WORDS.get(sort).get(word)) {
                int wide = bounds[1] - bounds[0] + 1;
                int n = RANDOM.nextInt(40) == 0 ? RANDOM.nextInt(100) : bounds[0] + RANDOM.nextInt(wide);
                if (sort == 0 && RANDOM.nextInt(2) == 0 && n >= bounds[0]) {
                    n = Math.max(bounds[0], n / 3);
                }
                text.append(RANDOM.nextInt(9) == 0 ? "\n" : " ").append(n);
            }
            text.append(";");
        }
        return text.toString();
    }

    private static String spoil(String text, int k) {
        if (k % 2 == 0 || text.isEmpty()) {
            return text;
        }
        StringBuilder spoilt = new StringBuilder(text);
        int where = RANDOM.nextInt(spoilt.length());
        switch (RANDOM.nextInt(6)) {
            case 0:
                spoilt.deleteCharAt(where);
                break;
            case 1:
                spoilt.setLength(where);
                break;
            case 2:
                spoilt.insert(where, " ");
                break;
            case 3:
                spoilt.insert(where, (char) ('0' + RANDOM.nextInt(10)));
                break;
            case 4:
                spoilt.setCharAt(where, (char) RANDOM.nextInt(256));
                break;
            default:
                spoilt.insert(where, new String(new byte[] {(byte) "; \n9aZ\t\r".charAt(RANDOM.nextInt(8))},
                    StandardCharsets.ISO_8859_1));
                break;
        }
        return spoilt.toString();
    }
}
