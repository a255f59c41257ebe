import java.util.Random;

/** Feeds texts to the tape, and makes random ones: good BANKS and DECADES, and such with one thing spoilt. */
final class Texts {
    private static final String[] NAMES = {"a", "b", "abe", "zed", "eightlet", "o", "endx", "yea", "q"};
    private static final String[] SPOILERS = {"", " ", ";", "<", "=", ">", "0", "1", "7", "9", "10", "99", "100", "1000",
        "9999", "10000", "0000", "odds", "cash", "corner", "still", "rank", "at", "pay", "clerk", "in", "served", "grey",
        "sham", "client", "sum", "nerve", "year", "move", "swap", "fan", "dust", "look", "run", "any", "when", "looks",
        "loop", "end", "stop", "a", "b", "abe", "eightlet", "ninelette", "A", "#", "\n", "\t", "\u0000", "\u00e9",
        "end ;", "run ;", "corner still 1;", "odds 3;", "when cash > 3;", "loop 2;"};

    private final Random random;

    Texts(Random random) {
        this.random = random;
    }

    /** The calls of feed() that bring the text to the tape, each as its five ints. */
    static int[][] feeds(String text) {
        int calls = (text.length() + 19) / 20;
        int[][] all = new int[calls][5];
        for (int i = 0; i < calls * 20; i++) {
            int one = i < text.length() ? text.charAt(i) & 255 : 0;
            all[i / 20][i % 20 / 4] |= one << (24 - 8 * (i % 4));
        }
        return all;
    }

    private int upTo(int n) {
        return random.nextInt(n + 1);
    }

    private boolean once(int in) {
        return random.nextInt(in) == 0;
    }

    private String blank() {
        return once(12) ? "\n" : once(12) ? "  " : " ";
    }

    String bank() {
        StringBuilder t = new StringBuilder();
        if (once(2)) t.append("odds").append(blank()).append(upTo(16)).append(";");
        if (once(2)) t.append("cash ").append(once(2) ? upTo(120) : upTo(9999)).append(blank()).append(";");
        int corners = once(6) ? upTo(7) : 3 + upTo(once(9) ? 5 : 4);
        for (int i = 0; i < corners; i++) t.append("corner still ").append(upTo(9)).append(";");
        int ranks = once(6) ? 0 : 1 + upTo(once(9) ? 5 : 4);
        int at = once(3) ? 0 : upTo(30);
        for (int i = 0; i < ranks && (at < 100 || once(20)); i++) {
            t.append("rank at ").append(at).append(" pay ").append(once(3) ? 0 : upTo(50)).append(";");
            at += once(40) ? 0 : 1 + upTo(30);
        }
        clerks(t, corners);
        int clients = upTo(once(9) ? 9 : 8);
        for (int i = 0; i < clients; i++) {
            int nerve = once(3) ? 0 : once(5) ? upTo(999) : upTo(200);
            t.append("client sum ").append(1 + upTo(98)).append(" nerve ").append(nerve).append(";");
        }
        return t.toString();
    }

    private void clerks(StringBuilder t, int corners) {
        int free = (1 << corners) - 1;
        int clerks = upTo(Math.min(once(9) ? 7 : 6, corners));
        for (int i = 0; i < clerks; i++) {
            int corner = random.nextInt(corners);
            while ((free >> corner & 1) == 0) corner = (corner + 1) % corners;
            free &= ~(1 << corner);
            t.append("clerk ").append(once(60) ? name(i) : NAMES[i]).append(" in ").append(corner);
            if (once(3)) t.append(" served ").append(once(2) ? 999 - upTo(3) : upTo(999));
            if (!once(4)) t.append(" grey ").append(upTo(99));
            if (once(2)) t.append(" sham ").append(once(4) ? 99 : upTo(40));
            t.append(";");
        }
    }

    String decades(int clerks, int corners) {
        StringBuilder t = new StringBuilder();
        block(t, 0, clerks, corners, 1 + upTo(once(5) ? 31 : 7));
        return t.length() > 300 ? t.substring(0, 300) : t.toString();
    }

    private String name(int clerks) {
        return clerks == 0 || once(60) ? NAMES[random.nextInt(NAMES.length)] : NAMES[random.nextInt(clerks)];
    }

    private void block(StringBuilder t, int depth, int clerks, int corners, int steps) {
        for (int i = 0; i < steps; i++) {
            switch (random.nextInt(depth < 3 || once(20) ? 14 : 9)) {
                case 0 -> t.append(once(30) ? "stop;run;" : "").append("year ").append(1 + upTo(19)).append(";");
                case 1 -> t.append("move ").append(name(clerks)).append(" ").append(upTo(Math.max(0, corners - 1))).append(";");
                case 2 -> t.append("swap ").append(name(clerks)).append(" ").append(name(clerks)).append(";");
                case 3 -> t.append("fan ").append(name(clerks)).append(" ").append(1 + upTo(49)).append(";");
                case 4 -> t.append("dust ").append(name(clerks)).append(";");
                case 5 -> t.append("look ").append(name(clerks)).append(";");
                case 6 -> t.append("run;");
                case 7 -> t.append("any;");
                case 8 -> t.append(once(4) ? "stop;" : "any;");
                case 9, 10, 11 -> {
                    t.append("loop ").append(once(3) ? 1 + upTo(98) : 1 + upTo(5)).append(";");
                    block(t, depth + 1, clerks, corners, upTo(3));
                    t.append("end;");
                }
                default -> {
                    t.append("when ").append(test(clerks)).append(";");
                    block(t, depth + 1, clerks, corners, upTo(3));
                    t.append("end;");
                }
            }
        }
    }

    private String test(int clerks) {
        String sign = " " + "<>=".charAt(random.nextInt(3)) + " ";
        return switch (random.nextInt(3)) {
            case 0 -> "rank " + name(clerks) + sign + upTo(5);
            case 1 -> "looks " + name(clerks) + sign + upTo(99);
            default -> "cash" + sign + upTo(once(2) ? 100 : 9999);
        };
    }

    String spoilt(String text) {
        StringBuilder t = new StringBuilder(text);
        int from = upTo(t.length());
        while (from > 0 && Character.isLetterOrDigit(t.charAt(from - 1)) && !once(6)) from--;
        int to = Math.min(t.length(), from + upTo(6));
        while (to < t.length() && Character.isLetterOrDigit(t.charAt(to)) && !once(6)) to++;
        t.replace(from, once(2) ? to : from, " " + SPOILERS[random.nextInt(SPOILERS.length)] + (once(2) ? " " : ""));
        return once(8) ? t.substring(0, upTo(t.length())) : t.toString();
    }
}
