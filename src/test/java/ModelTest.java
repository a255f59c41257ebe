import java.lang.reflect.Method;
import java.lang.reflect.Modifier;
import java.util.ArrayList;
import java.util.Arrays;
import java.util.Comparator;
import java.util.List;
import java.util.Random;

/** Random runs of calls: every answer of WebBank is held against the Model's, and what both tell behind it. */
public final class ModelTest {
    private static final int RUNS = 8000;
    /** What an object is used for, after the document; each call is told of by as many as TELLING more. */
    private static final int CALLS = 512;
    private static final int TELLING = 5;
    private static final int[] EDGES = {Integer.MIN_VALUE, -2, -1, 0, 1, 2, 3, 4, 5, 6, 7, 8, 9, 10, 16, 17, 19, 20, 21, 39,
        40, 41, 49, 50, 51, 59, 60, 61, 98, 99, 100, 299, 300, 301, 899, 900, 901, 998, 999, 1000, 9979, 9980, 9981, 9998,
        9999, 10000, 65536, Integer.MAX_VALUE - 1, Integer.MAX_VALUE};

    private static final List<String> RARE = List.of("feed", "bank", "decades");
    private static final List<String> TOLD_OF = List.of("bank", "decades", "shams", "share", "mean", "undo");

    private final Random random;
    private final Texts texts;
    private final WebBank bank = new WebBank();
    private final Model model = new Model();
    private final List<String> calls = new ArrayList<>();
    private int left = CALLS;

    private ModelTest(long seed) {
        random = new Random(seed);
        texts = new Texts(random);
    }

    private static List<Method> face() {
        List<Method> all = new ArrayList<>();
        for (Method m : WebBank.class.getDeclaredMethods()) {
            if (Modifier.isPublic(m.getModifiers())) all.add(m);
        }
        all.sort(Comparator.comparing(Method::getName));
        return all;
    }

    private boolean same(String name, Object... args) throws Exception {
        calls.add(name + Arrays.toString(args));
        Class<?>[] types = new Class<?>[args.length];
        for (int i = 0; i < args.length; i++) types[i] = args[i] instanceof Long ? long.class : int.class;
        boolean isAllTold = TOLD_OF.contains(name) || calls.size() % 16 == 0;
        left -= 2 + (isAllTold ? TELLING - 1 : 0);
        String got = WebBank.class.getMethod(name, types).invoke(bank, args) + " status " + bank.status();
        String want = Model.class.getMethod(name, types).invoke(model, args) + " status " + model.status();
        if (isAllTold) {
            got += tell(bank.top(), bank.bottom(), bank.fault(0), bank.fault(1));
            want += tell(model.top(), model.bottom(), model.fault(0), model.fault(1));
        }
        if (got.equals(want) && left >= 0) return true;
        for (String call : calls) System.out.println("  " + call);
        System.out.println(left < 0 ? "that is more than an object is used for" : "answered " + got + ", due is " + want);
        return false;
    }

    private static String tell(long top, long bottom, int fault, int place) {
        return " fraction " + top + "/" + bottom + " fault " + fault + " at " + place;
    }

    private boolean sameText(String name, String text) throws Exception {
        for (int[] five : Texts.feeds(text)) {
            if (!same("feed", five[0], five[1], five[2], five[3], five[4])) return false;
        }
        calls.add("  // " + text.replace("\n", "\\n"));
        return same(name, text.length());
    }

    private int number() {
        switch (random.nextInt(20)) {
            case 0: return EDGES[random.nextInt(EDGES.length)];
            case 1: return random.nextInt();
            case 2: case 3: return random.nextInt(100);
            case 4: return random.nextInt(42);
            case 5: case 6: case 7: case 8: case 9: case 10: case 11: case 12: return random.nextInt(3);
            default: return random.nextInt(7);
        }
    }

    private boolean sameCall(List<Method> face) throws Exception {
        Method m = face.get(random.nextInt(face.size()));
        Object[] args = new Object[m.getParameterCount()];
        for (int i = 0; i < args.length; i++) {
            args[i] = m.getParameterTypes()[i] == long.class ? (Object) longNumber() : (Object) number();
        }
        if (RARE.contains(m.getName()) && random.nextInt(40) != 0) return true;
        if (m.getName().equals("rule") && random.nextInt(2) == 0) {
            args[0] = 4 + random.nextInt(2);
            args[1] = random.nextInt(200);
        }
        return same(m.getName(), args);
    }

    private long longNumber() {
        return random.nextInt(4) == 0 ? random.nextLong() : number();
    }

    private boolean sameTwos() throws Exception {
        int tray = random.nextInt(4);
        int n = random.nextInt(4);
        int still = random.nextInt(10);
        if (!same("tray", tray, random.nextInt(4), 2 * n + random.nextInt(3))) return false;
        for (int i = 0; i < n; i++) {
            int years = random.nextInt(100);
            if (!same("write", tray, 2 * i, (long) years)) return false;
            int grey = Math.min(99, years * still);
            if (!same("write", tray, 2 * i + 1, (long) (random.nextInt(9) == 0 ? number() : grey))) return false;
        }
        return same("fits", tray, n) && same("fitsAt", tray, n, random.nextInt(5)) && same("ask", tray, n);
    }

    private boolean samePour() throws Exception {
        int sort = random.nextInt(4);
        if (!same("tray", 0, sort, 1 + random.nextInt(60)) || !same("tray", 1, sort, random.nextInt(20))) return false;
        for (int i = 0; i < 8; i++) {
            if (!same("write", 0, random.nextInt(20), random.nextLong())) return false;
        }
        for (int i = 0; i < 6; i++) {
            int to = random.nextInt(2);
            if (!same("pour", 0, random.nextInt(20), to, random.nextInt(20), random.nextInt(20))) return false;
            if (!same("read", to, random.nextInt(20)) || !same("read", 0, random.nextInt(20))) return false;
        }
        return true;
    }

    /** To the last YEARS there are. */
    private boolean sameLongWhile() throws Exception {
        for (int i = 0; i < 100; i++) if (!same("year", 99)) return false;
        return same("year", 90 + random.nextInt(10));
    }

    private boolean sameDecades() throws Exception {
        String text = texts.decades(bank.told(2), bank.told(0));
        model.told(0);
        left -= 2;
        if (random.nextInt(3) == 0) text = texts.spoilt(text);
        return sameText("decades", cut(text, 300)) && same("mark") && same("live", random.nextInt(10000))
            && sameAllToldBehindLife() && same("undo") && same("mean", random.nextInt(9999), 1 + random.nextInt(20));
    }

    private boolean sameAllToldBehindLife() throws Exception {
        for (int what = 0; what < 5; what++) if (!same("lived", what)) return false;
        return same("told", 9) && same("told", 5) && same("told", 6);
    }

    private boolean sameBank() throws Exception {
        String text = texts.bank();
        if (random.nextInt(3) == 0) text = texts.spoilt(text);
        return sameText("bank", cut(text, 900));
    }

    /** One run: a good bank first, then calls of all kinds. */
    private boolean sameRun(List<Method> face) throws Exception {
        if (!sameText("bank", cut(texts.bank(), 900))) return false;
        if (random.nextInt(8) == 0 && !sameLongWhile()) return false;
        while (left > 120) {
            if (!sameNext(face)) return false;
        }
        return true;
    }

    private boolean sameNext(List<Method> face) throws Exception {
        int kind = random.nextInt(200);
        if (kind == 0) return sameBank();
        if (kind < 6) return sameDecades();
        if (kind == 6) return sameTwos();
        return kind == 7 ? samePour() : sameCall(face);
    }

    /** Another run: texts, most of them spoilt. */
    private boolean sameTexts() throws Exception {
        while (left > 380) {
            String bankText = texts.bank();
            if (!sameText("bank", cut(bankText, 900))) return false;
            if (!sameDecades() || !sameDecades()) return false;
            if (!sameText("bank", cut(texts.spoilt(texts.spoilt(texts.bank())), 900))) return false;
        }
        return true;
    }

    private static String cut(String text, int most) {
        return text.length() > most ? text.substring(0, most) : text;
    }

    public static void main(String[] args) throws Exception {
        List<Method> face = face();
        int wrong = 0;
        int runs = args.length > 0 ? Integer.parseInt(args[0]) : RUNS;
        for (int seed = 0; seed < runs && wrong == 0; seed++) {
            if (!new ModelTest(seed).sameRun(face) || !new ModelTest(seed).sameTexts()) {
                System.out.println("run of seed " + seed);
                wrong++;
            }
        }
        System.out.println(wrong == 0 ? runs + " runs answer as the model does" : "a run answers unlike the model");
        if (wrong != 0) System.exit(1);
    }
}
