import java.io.IOException;
import java.nio.file.Files;
import java.nio.file.Path;
import java.util.ArrayList;
import java.util.List;

/**
 * What the tests of edges share. A test is named by the words of the document that it holds to; the words must stand
 * there, and all words of a part that was begun must be those of a test.
 */
abstract class Edges {
    private static final Path DOC = Path.of("..", "shared", "DOC.md");
    /** Behind the call that a promise begins with. */
    private static final String HEAD = "): ";

    private static String part = "";
    private static String title = "";
    private static boolean[] isTested = {};
    private static String words = "";
    private static int tests = 0;
    private static int wrong = 0;

    static void wrong(String what) {
        wrong++;
        System.out.println(title + ", \"" + words + "\": " + what);
    }

    // ---- the document

    private static String document() {
        try {
            return Files.readString(DOC).replace("```text", "").replace("`", "").replaceAll("\\s+", " ");
        } catch (IOException e) {
            wrong("can't be read: " + e);
            return "";
        }
    }

    private static void begin(String name, String before, String first, String behind) {
        end();
        title = name;
        part = "";
        if (!Files.exists(DOC)) {
            System.out.println("no " + DOC + " here: whether the words of " + name + " stand there is not looked up");
            return;
        }
        String doc = document();
        int from = doc.indexOf(first, Math.max(0, doc.indexOf(before)));
        int to = doc.indexOf(behind, from + first.length());
        if (from < 0 || to < 0) {
            wrong("does not stand in the document");
            return;
        }
        part = doc.substring(first.equals(HEAD) ? from + HEAD.length() : from, to);
        isTested = new boolean[part.length()];
    }

    /** The Terms from these words on, up to those. */
    static void terms(String first, String behind) {
        begin("Terms", "## Terms", first, behind);
    }

    /** What the document says ahead of the Terms of how long an object is used. */
    static void whatItIs() {
        begin("What it is", "## What it is", "An object is used", "## The public face");
    }

    /** A promise, without its heading and its call. */
    static void promise(int number) {
        begin("Promise " + number, "## Promise " + number + ":", HEAD, "## ");
    }

    /** Tells the words of the part that no test is named by. */
    static void end() {
        StringBuilder left = new StringBuilder();
        for (int i = 0; i < part.length(); i++) {
            if (isTested[i] || !Character.isLetterOrDigit(part.charAt(i))) {
                if (left.length() > 0 && left.charAt(left.length() - 1) != ' ') left.append(' ');
            } else {
                left.append(part.charAt(i));
            }
        }
        words = "";
        if (left.length() > 0) wrong("without a test: " + left);
        part = "";
    }

    /** A test of its own for these words of the part. */
    static void edge(String quoted, Runnable test) {
        words = quoted;
        tests++;
        if (Files.exists(DOC)) lookUp(quoted);
        test.run();
    }

    private static void lookUp(String quoted) {
        int at = part.indexOf(quoted);
        while (at >= 0 && isTested[at] && part.indexOf(quoted, at + 1) >= 0) at = part.indexOf(quoted, at + 1);
        if (at < 0) wrong("these words do not stand there");
        for (int i = at; i >= 0 && i < at + quoted.length(); i++) isTested[i] = true;
    }

    static void tellAndExit() {
        end();
        System.out.println(wrong == 0 ? tests + " edges hold" : wrong + " answers are not as due");
        if (wrong != 0) System.exit(1);
    }

    // ---- objects

    static Run run() {
        return new Run();
    }

    /** A new object with this BANK. */
    static Run run(String bank) {
        Run x = new Run();
        if (x.bank(bank) < 0) wrong("not taken: " + bank);
        return x;
    }

    /** A new object with this BANK and these DECADES. */
    static Run run(String bank, String decades) {
        Run x = run(bank);
        if (x.decades(decades) < 0) wrong("not taken: " + decades);
        return x;
    }

    // ---- texts

    static String times(int n, String text) {
        return text.repeat(n);
    }

    static void taken(String... banks) {
        for (String bank : banks) {
            run(bank).gives("fault(0)", 0, "fault(1)", -1);
        }
    }

    static void faulty(String bank, int kind, int place) {
        Run x = run();
        if (x.bank(bank) != -1) wrong("taken: " + bank);
        x.told("bank of " + bank).gives("status()", 9, "fault(0)", kind, "fault(1)", place);
    }

    static void takenDecades(String bank, String... all) {
        for (String decades : all) {
            run(bank, decades).gives("fault(0)", 0, "fault(1)", -1);
        }
    }

    static void faultyDecades(String bank, String decades, int kind, int place) {
        Run x = run(bank);
        if (x.decades(decades) != -1) wrong("taken: " + decades);
        x.told("decades of " + decades).gives("status()", 9, "fault(0)", kind, "fault(1)", place);
    }

    /** Each TOKEN of a text that is good: the text's end in its place, or one of another kind, is 2 there. */
    static void everyToken(String bank, String before, String tokens, boolean inDecades) {
        String[] all = tokens.split(" ");
        StringBuilder text = new StringBuilder(before);
        for (int i = 0; i < all.length; i++) {
            if (i > 0) {
                faultyEither(bank, text.toString(), text.length(), inDecades);
                for (String other : "zzz at in 7 59 61 ; < =".split(" ")) {
                    boolean isPerhaps = other.equals(";") && List.of("served", "grey", "sham").contains(all[i]);
                    if (!isPerhaps && !kindOf(other).equals(kindOf(all[i]))) {
                        faultyEither(bank, text + " " + other, text.length() + 1, inDecades);
                    }
                }
            }
            text.append(" ").append(all[i]);
        }
    }

    private static void faultyEither(String bank, String text, int place, boolean inDecades) {
        if (inDecades) {
            faultyDecades(bank, text, 2, place);
        } else {
            faulty(text, 2, place);
        }
    }

    private static String kindOf(String token) {
        if (token.length() == 1 && Character.isLetter(token.charAt(0)) || token.equals("zzz")) return "name";
        if (Character.isDigit(token.charAt(0))) return "number";
        return "<>=".contains(token) ? "compares" : token;
    }

    // ---- one object

    /** One object and its calls, written as in Java; no more than the document lets an object have. */
    static final class Run {
        private static final int MOST_CALLS = 512;
        private static final List<String> WITHOUT_STATUS = List.of("status", "top", "bottom", "feed", "fault");

        private final WebBank x = new WebBank();
        private String ahead = "";
        private int calls = 0;

        private void count() {
            calls++;
            if (calls == MOST_CALLS + 1) wrong("a test of more than " + MOST_CALLS + " calls");
        }

        /** What is to be said ahead of an answer that is not as due. */
        Run told(String what) {
            ahead = what + ": ";
            return this;
        }

        long ask(String call) {
            count();
            String name = call.substring(0, call.indexOf('('));
            String inside = call.substring(name.length() + 1, call.length() - 1).replace(" ", "");
            String[] numbers = inside.isEmpty() ? new String[0] : inside.split(",");
            try {
                for (var method : WebBank.class.getMethods()) {
                    if (method.getName().equals(name) && method.getParameterCount() == numbers.length) {
                        Object[] all = new Object[numbers.length];
                        for (int i = 0; i < all.length; i++) {
                            boolean isLong = method.getParameterTypes()[i] == long.class;
                            all[i] = isLong ? (Object) Long.valueOf(numbers[i]) : (Object) Integer.valueOf(numbers[i]);
                        }
                        Object got = method.invoke(x, all);
                        return got instanceof Boolean yes ? (yes ? 1 : 0) : ((Number) got).longValue();
                    }
                }
            } catch (ReflectiveOperationException e) {
                wrong(call + " threw " + e.getCause());
                return Long.MIN_VALUE;
            }
            throw new IllegalArgumentException("no such call: " + call);
        }

        private void dueStatus(String call, int want) {
            count();
            due("status of " + call, x.status(), want);
        }

        private static boolean isYesOrNo(String call) {
            String name = call.substring(0, call.indexOf('('));
            return List.of("tray", "write", "pour", "rule", "shams", "share", "mean").contains(name);
        }

        private void due(String call, long got, long want) {
            if (got != want) wrong(ahead + call + " answered " + got + ", due is " + want);
        }

        /** Calls and what they give, each with STATUS 0, in turn. */
        Run gives(Object... callsAndAnswers) {
            for (int i = 0; i < callsAndAnswers.length; i += 2) {
                String call = (String) callsAndAnswers[i];
                due(call, ask(call), ((Number) callsAndAnswers[i + 1]).longValue());
                if (!WITHOUT_STATUS.contains(call.substring(0, call.indexOf('(')))) dueStatus(call, 0);
            }
            return this;
        }

        /** Calls that are refused with this STATUS. */
        Run refuses(int status, String... all) {
            for (String call : all) {
                due(call, ask(call), isYesOrNo(call) ? 0 : -1);
                dueStatus(call, status);
            }
            return this;
        }

        Run givesFraction(String call, long top, long bottom) {
            return gives(call, 1, "top()", top, "bottom()", bottom);
        }

        /** Calls whose answers do not matter. */
        Run does(String... all) {
            for (String call : all) ask(call);
            return this;
        }

        Run years(int many) {
            for (int left = many; left > 0; left -= 99) does("year(" + Math.min(99, left) + ")");
            return this;
        }

        void feed(String text) {
            for (int[] five : Texts.feeds(text)) {
                count();
                x.feed(five[0], five[1], five[2], five[3], five[4]);
            }
        }

        int bank(String text) {
            feed(text);
            count();
            return x.bank(text.length());
        }

        int decades(String text) {
            feed(text);
            count();
            return x.decades(text.length());
        }

        Run withBank(String text) {
            if (bank(text) < 0) wrong("not taken: " + text);
            return this;
        }

        Run withDecades(String text) {
            if (decades(text) < 0) wrong("not taken: " + text);
            return this;
        }

        /** All that the object tells of BANK, TRAYS, FRACTION, FAULT and of how it lived. */
        String all() {
            List<Long> told = new ArrayList<>();
            for (int i = 0; i < 11; i++) told.add(ask("told(" + i + ")"));
            for (int i = 0; i < told.get(0); i++) for (int k = 0; k < 2; k++) told.add(ask("corner(" + i + ", " + k + ")"));
            for (int i = 0; i < told.get(1); i++) for (int k = 0; k < 3; k++) told.add(ask("rank(" + i + ", " + k + ")"));
            for (int i = 0; i < told.get(2); i++) for (int k = 0; k < 7; k++) told.add(ask("clerk(" + i + ", " + k + ")"));
            for (int i = 0; i < told.get(3); i++) for (int k = 0; k < 2; k++) told.add(ask("client(" + i + ", " + k + ")"));
            for (int i = 0; i < 4; i++) for (int k = 0; k < 5; k++) told.add(ask("read(" + i + ", " + k + ")"));
            for (int i = 0; i < 5; i++) told.add(ask("lived(" + i + ")"));
            for (String call : List.of("top()", "bottom()", "fault(0)", "fault(1)")) told.add(ask(call));
            return told.toString();
        }
    }
}
