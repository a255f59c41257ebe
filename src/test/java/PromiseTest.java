/** For each promise of the document: ordinary calls, the edges that it names, and wrong ones. */
public final class PromiseTest {
    private static final String CORNERS = "corner still 3;corner still 0;corner still 9;corner still 5;";
    private static final String RANKS = "rank at 10 pay 2;rank at 30 pay 5;rank at 60 pay 1;";
    private static final String CLERKS = "clerk ann in 0 served 3 grey 9 sham 4;clerk bob in 1 served 999 grey 29;"
        + "clerk cat in 3 grey 95 sham 99;";
    private static final String CLIENTS = "client sum 10 nerve 0;client sum 5 nerve 10;client sum 7 nerve 16;";
    private static final String BANK = "odds 8;cash 20;" + CORNERS + RANKS + CLERKS + CLIENTS;

    private static int wrong = 0;
    private static int right = 0;
    private static int promise = 0;

    private static void due(String call, long got, long want) {
        if (got == want) {
            right++;
        } else {
            wrong++;
            System.out.println("promise " + promise + ": " + call + " answered " + got + ", due is " + want);
        }
    }

    private static void due(String call, boolean got, boolean want) {
        due(call, got ? 1 : 0, want ? 1 : 0);
    }

    /** The call has just been made: it was refused with this STATUS. */
    private static void refused(WebBank x, String call, long got, int status) {
        due(call, got, WebBank.NONE);
        due(call + " status()", x.status(), status);
    }

    private static void refused(WebBank x, String call, boolean got, int status) {
        due(call, got, false);
        due(call + " status()", x.status(), status);
    }

    private static void fraction(WebBank x, String call, boolean got, long top, long bottom) {
        due(call, got, true);
        due(call + " status()", x.status(), 0);
        due(call + " top()", x.top(), top);
        due(call + " bottom()", x.bottom(), bottom);
    }

    private static void feed(WebBank x, String text) {
        for (int[] five : Texts.feeds(text)) x.feed(five[0], five[1], five[2], five[3], five[4]);
    }

    private static int bank(WebBank x, String text) {
        feed(x, text);
        return x.bank(text.length());
    }

    private static int decades(WebBank x, String text) {
        feed(x, text);
        return x.decades(text.length());
    }

    private static WebBank with(String text) {
        WebBank x = new WebBank();
        due("bank of a good text: " + text, bank(x, text) >= 0, true);
        return x;
    }

    private static WebBank living(String bankText, String decadesText) {
        WebBank x = with(bankText);
        due("decades of a good text: " + decadesText, decades(x, decadesText) >= 0, true);
        return x;
    }

    private static void faultOfBank(String text, int kind, int place) {
        WebBank x = with("corner still 1;");
        refused(x, "bank of " + text, bank(x, text), 9);
        due("fault(0) of " + text, x.fault(0), kind);
        due("fault(1) of " + text, x.fault(1), place);
        due("the old bank stays", x.told(0), 1);
    }

    private static void faultOfDecades(String text, int kind, int place) {
        WebBank x = living("corner still 1;corner still 2;clerk ann in 0;", "run;");
        refused(x, "decades of " + text, decades(x, text), 9);
        due("fault(0) of " + text, x.fault(0), kind);
        due("fault(1) of " + text, x.fault(1), place);
        due("the old decades stay", x.live(0), 1);
    }

    private static String times(int n, String text) {
        return text.repeat(n);
    }

    // ---- 1 to 4

    private static void aNewObject() {
        promise = 1;
        WebBank x = new WebBank();
        due("status()", x.status(), 0);
        due("top()", x.top(), 0);
        due("bottom()", x.bottom(), 1);
        due("NONE", WebBank.NONE, -1);
        int[] told = {0, 0, 0, 0, 4, 100, 0, 0, 0, 0, 0};
        for (int what = 0; what < told.length; what++) due("told(" + what + ")", x.told(what), told[what]);
        for (int tray = 0; tray < 4; tray++) refused(x, "read(" + tray + ", 0)", x.read(tray, 0), 2);
        refused(x, "live(0)", x.live(0), 6);
        refused(x, "undo()", x.undo(), 6);
        refused(x, "bank(1)", x.bank(1), 1);
        due("fault(0)", x.fault(0), -1);
        due("fault(1)", x.fault(1), -1);
        due("bank(0)", x.bank(0), 0);
    }

    private static void status() {
        promise = 2;
        WebBank x = with(BANK);
        due("status()", x.status(), 0);
        x.told(11);
        due("status()", x.status(), 1);
        due("status() again", x.status(), 1);
        x.top();
        x.bottom();
        x.feed(0, 0, 0, 0, 0);
        x.fault(0);
        x.fault(9);
        due("status() behind those that have none", x.status(), 1);
        x.told(0);
        due("status()", x.status(), 0);
        // The first that holds: 1 ahead of 4 and 7, 4 ahead of 7.
        x.hire(2);
        x.move(0, 1);
        due("move to a corner in which one sits", x.status(), 7);
        x.move(9, 1);
        due("move of no clerk", x.status(), 1);
    }

    private static void topAndBottom() {
        promise = 3;
        WebBank x = with("corner still 1;corner still 1;clerk a in 0 grey 20;clerk b in 1 grey 60;");
        fraction(x, "share(0)", x.share(0), 1, 4);
        refused(x, "share(2)", x.share(2), 1);
        due("top() stays", x.top(), 1);
        due("bottom() stays", x.bottom(), 4);
        promise = 4;
        x.dust(0);
        x.year(1);
        fraction(x, "share of 1", x.share(0), 1, 62);
        x.dust(0);
        fraction(x, "share of none", x.share(0), 0, 1);
        fraction(x, "share of all", x.share(1), 1, 1);
        bank(x, "");
        due("top() behind a bank", x.top(), 1);
    }

    // ---- 5 to 8

    private static void trays() {
        promise = 5;
        WebBank x = new WebBank();
        due("tray(0, 0, 0)", x.tray(0, 0, 0), true);
        refused(x, "read(0, 0)", x.read(0, 0), 3);
        due("tray(3, 3, 60)", x.tray(3, 3, 60), true);
        due("read(3, 59)", x.read(3, 59), 0);
        x.write(3, 59, 7);
        x.write(3, 0, 7);
        due("tray(3, 3, 60) again", x.tray(3, 3, 60), true);
        due("read(3, 59) of the new one", x.read(3, 59), 0);
        due("read(3, 0) of the new one", x.read(3, 0), 0);
        x.write(3, 59, 7);
        refused(x, "tray(-1, 0, 1)", x.tray(-1, 0, 1), 1);
        refused(x, "tray(4, 0, 1)", x.tray(4, 0, 1), 1);
        refused(x, "tray(3, -1, 1)", x.tray(3, -1, 1), 1);
        refused(x, "tray(3, 4, 1)", x.tray(3, 4, 1), 1);
        refused(x, "tray(3, 0, -1)", x.tray(3, 0, -1), 1);
        refused(x, "tray(3, 0, 61)", x.tray(3, 0, 61), 1);
        due("read(3, 59) stays", x.read(3, 59), 7);
        promise = 6;
        long v = 0x123456789abcdef0L;
        long[] cut = {(byte) v, (short) v, (int) v, v};
        long[] low = {-128, -32768, Integer.MIN_VALUE, Long.MIN_VALUE};
        for (int sort = 0; sort < 4; sort++) {
            x.tray(sort, sort, 2);
            due("write", x.write(sort, 1, v), true);
            due("read of sort " + sort, x.read(sort, 1), cut[sort]);
            x.write(sort, 1, low[sort]);
            due("read of the least of sort " + sort, x.read(sort, 1), low[sort]);
            x.write(sort, 1, low[sort] - 1);
            due("read of one less of sort " + sort, x.read(sort, 1), -(low[sort] + 1));
            due("the other place", x.read(sort, 0), 0);
        }
        refused(x, "write(4, 0, 1)", x.write(4, 0, 1), 1);
        refused(x, "write(0, 2, 1)", x.write(0, 2, 1), 3);
        refused(x, "write(0, -1, 1)", x.write(0, -1, 1), 3);
        WebBank y = new WebBank();
        refused(y, "write to a missing one", y.write(0, -1, 1), 2);
        refused(y, "write to none", y.write(-1, -1, 1), 1);
        promise = 7;
        x.write(0, 0, -1);
        due("read(0, 0)", x.read(0, 0), -1);
        due("status() tells it from NONE", x.status(), 0);
        refused(x, "read(0, 2)", x.read(0, 2), 3);
        refused(x, "read(0, -1)", x.read(0, -1), 3);
        refused(x, "read(4, 0)", x.read(4, 0), 1);
        refused(y, "read of a missing one", y.read(0, 0), 2);
    }

    private static void pour() {
        promise = 8;
        WebBank x = new WebBank();
        x.tray(0, 1, 5);
        x.tray(1, 1, 3);
        x.tray(2, 2, 5);
        for (int i = 0; i < 5; i++) x.write(0, i, 10 + i);
        due("pour(0, 1, 0, 2, 3)", x.pour(0, 1, 0, 2, 3), true);
        long[] up = {10, 11, 11, 12, 13};
        for (int i = 0; i < 5; i++) due("upward, as they were, " + i, x.read(0, i), up[i]);
        due("pour(0, 2, 0, 1, 3)", x.pour(0, 2, 0, 1, 3), true);
        long[] down = {10, 11, 12, 13, 13};
        for (int i = 0; i < 5; i++) due("downward, as they were, " + i, x.read(0, i), down[i]);
        due("pour(0, 3, 1, 1, 2)", x.pour(0, 3, 1, 1, 2), true);
        due("read(1, 0)", x.read(1, 0), 0);
        due("read(1, 2)", x.read(1, 2), 13);
        due("of none, just behind the last", x.pour(0, 5, 1, 3, 0), true);
        refused(x, "of none, from further", x.pour(0, 6, 1, 3, 0), 3);
        refused(x, "of none, to further", x.pour(0, 5, 1, 4, 0), 3);
        refused(x, "more than there are", x.pour(0, 3, 1, 0, 3), 3);
        refused(x, "more than there is room", x.pour(0, 0, 1, 1, 3), 3);
        refused(x, "very many", x.pour(0, 1, 1, 1, Integer.MAX_VALUE), 3);
        refused(x, "very far", x.pour(0, Integer.MAX_VALUE, 1, 1, 1), 3);
        refused(x, "unlike sorts, ahead of 3", x.pour(0, 9, 2, 0, 1), 8);
        refused(x, "missing, ahead of 8 and 3", x.pour(2, 9, 3, 0, 1), 2);
        refused(x, "from a missing one", x.pour(3, 0, 2, 0, 1), 2);
        refused(x, "place below 0, ahead of 2", x.pour(0, -1, 3, 0, 1), 1);
        refused(x, "at below 0", x.pour(0, 0, 1, -1, 1), 1);
        refused(x, "many below 0", x.pour(0, 0, 1, 0, -1), 1);
        refused(x, "from none", x.pour(-1, 0, 1, 0, 1), 1);
        refused(x, "to none", x.pour(0, 0, 4, 0, 1), 1);
    }

    // ---- 9 to 12

    private static void feedAndTape() {
        promise = 9;
        WebBank x = new WebBank();
        for (int i = 1; i <= 45; i++) due("feed " + i, x.feed(0x20202020, 0, 0, 0, 0x0a0a0a0a), 20 * i);
        due("feed 46", x.feed(0, 0, 0, 0, 0), WebBank.NONE);
        due("feed 46 again", x.feed(0, 0, 0, 0, 0), WebBank.NONE);
        refused(x, "bank(901)", x.bank(901), 1);
        refused(x, "bank(900)", x.bank(900), 9);
        due("fault(1)", x.fault(1), 4);
        due("the tape is empty", x.feed(0x6f646473, 0x20373b23, 0, 0, 0), 20);
        due("the highest byte first", x.bank(7), 0);
        due("told(4)", x.told(4), 7);
        due("all of the tape is gone", x.feed(0, 0, 0, 0, 0), 20);
    }

    private static void bankTaken() {
        promise = 10;
        WebBank x = new WebBank();
        due("bank()", bank(x, BANK), 3);
        due("status()", x.status(), 0);
        int[] told = {4, 3, 3, 3, 8, 20, 0, 0, 0, 133, 22};
        for (int what = 0; what < told.length; what++) due("told(" + what + ")", x.told(what), told[what]);
        x.year(5);
        x.rule(5, 0);
        x.year(5);
        decades(x, "run;");
        due("bank() in place of it", bank(x, "corner still 2;corner still 4;clerk z in 1;"), 1);
        int[] anew = {2, 0, 1, 0, 4, 100, 0, 0, 0, 0, 0};
        for (int what = 0; what < anew.length; what++) due("told(" + what + ") anew", x.told(what), anew[what]);
        for (int what = 1; what < 7; what++) due("clerk(0, " + what + ") anew", x.clerk(0, what), 0);
        refused(x, "no decades", x.live(0), 6);
        feed(x, "corner still 1;     ");
        refused(x, "bank(-1)", x.bank(-1), 1);
        refused(x, "bank(21)", x.bank(21), 1);
        due("the tape stays with 1", x.bank(15), 0);
        due("told(0)", x.told(0), 1);
        due("an empty text", x.bank(0), 0);
        due("told(0)", x.told(0), 0);
        due("blanks alone", bank(x, " \n  \n"), 0);
        due("blanks all about", bank(x, "\n corner\n\nstill 4 ; clerk a in 0 grey 0009 ; "), 1);
        due("clerk(0, 2)", x.clerk(0, 2), 9);
        due("no blanks where none need be", bank(x, "corner still4;corner still5;clerk a in0served1grey2sham3;"), 1);
        due("clerk(0, 3)", x.clerk(0, 3), 3);
        due("in any order", bank(x, "client sum 1 nerve 999;corner still 0;rank at 0 pay 50;rank at 99 pay 0;"
            + "clerk eightlet in 0 served 999 grey 99 sham 99;cash 0;corner still 9;odds 0;"), 1);
        due("odds 16, cash 9999", bank(x, "odds 16;cash 9999;"), 0);
        due("told(5)", x.told(5), 9999);
        due("all that there can be", bank(x, times(7, "corner still 1;") + "rank at 1 pay 1;rank at 2 pay 1;rank at 3 "
            + "pay 1;rank at 4 pay 1;rank at 5 pay 1;clerk a in 0;clerk b in 1;clerk c in 2;clerk d in 3;clerk e in 4;"
            + "clerk f in 5;" + times(8, "client sum 99 nerve 0;")), 6);
        due("told(10)", x.told(10), 792);
    }

    private static void bankFaults() {
        promise = 10;
        faultOfBank("#", 1, 0);
        faultOfBank("corner still 1; Odds", 1, 16);
        faultOfBank("corner\tstill 1;", 1, 6);
        faultOfBank("cash 12345;", 1, 5);
        faultOfBank("12345", 1, 0);
        faultOfBank("\u00e9", 1, 0);
        faultOfBank("odds 3 #", 1, 7);
        faultOfBank(";", 2, 0);
        faultOfBank("7", 2, 0);
        faultOfBank("still 3;", 2, 0);
        faultOfBank("corners", 2, 0);
        faultOfBank("cornerstill 3;", 2, 0);
        faultOfBank("year 3;", 2, 0);
        faultOfBank("end;", 2, 0);
        faultOfBank("odds", 2, 4);
        faultOfBank("odds  \n", 2, 7);
        faultOfBank("odds 3", 2, 6);
        faultOfBank("odds ;", 2, 5);
        faultOfBank("cash ;", 2, 5);
        faultOfBank("cash ann;", 2, 5);
        faultOfBank("corner still ;", 2, 13);
        faultOfBank("rank at ;", 2, 8);
        faultOfBank("rank at 1 pay ;", 2, 14);
        faultOfBank("client sum ;", 2, 11);
        faultOfBank("client sum 1 nerve ;", 2, 19);
        faultOfBank("corner still 1;clerk a in ;", 2, 26);
        faultOfBank("corner still 1;clerk a in 0 served ;", 2, 35);
        faultOfBank("odds 3 4;", 2, 7);
        faultOfBank("odds 3 <", 2, 7);
        faultOfBank("corner 3;", 2, 7);
        faultOfBank("corner still still", 2, 13);
        faultOfBank("rank pay", 2, 5);
        faultOfBank("rank at 5;", 2, 9);
        faultOfBank("client sum 5 sum", 2, 13);
        faultOfBank("corner still 1;clerk 7", 2, 21);
        faultOfBank("corner still 1;clerk odds", 2, 21);
        faultOfBank("corner still 1;clerk stop", 2, 21);
        faultOfBank("corner still 1;clerk looks", 2, 21);
        faultOfBank("corner still 1;clerk nineletter", 2, 21);
        faultOfBank("corner still 1;clerk a at", 2, 23);
        faultOfBank("corner still 1;clerk a in 0 grey 3 served 4;", 2, 35);
        faultOfBank("corner still 1;clerk a in 0 sham 3 sham 4;", 2, 35);
        faultOfBank("corner still 1;corner still 1;clerk a in 0;clerk a in 7;", 3, 49);
        faultOfBank("odds 17;", 4, 5);
        faultOfBank("corner still 10;", 4, 13);
        faultOfBank("rank at 100 pay 1;", 4, 8);
        faultOfBank("rank at 1 pay 51;", 4, 14);
        faultOfBank("rank at 5 pay 1;rank at 5 pay 1;", 4, 24);
        faultOfBank("rank at 5 pay 1;rank at 4 pay 1;", 4, 24);
        faultOfBank("rank at 99 pay 1;rank at 99 pay 1;", 4, 25);
        faultOfBank("clerk a in 0;corner still 1;", 4, 11);
        faultOfBank("corner still 1;clerk a in 1;", 4, 26);
        faultOfBank("corner still 1;clerk a in 0 served 1000;", 4, 35);
        faultOfBank("corner still 1;clerk a in 0 grey 100;", 4, 33);
        faultOfBank("corner still 1;clerk a in 0 sham 100;", 4, 33);
        faultOfBank("client sum 0 nerve 1;", 4, 11);
        faultOfBank("client sum 100 nerve 1;", 4, 11);
        faultOfBank("client sum 1 nerve 1000;", 4, 19);
        faultOfBank("odds 1;odds", 5, 7);
        faultOfBank("cash 1;odds 1;cash 99999", 5, 14);
        faultOfBank("corner still 1;clerk a in 0;clerk b in 0;", 5, 39);
        faultOfBank(times(7, "corner still 1;") + "corner", 6, 105);
        faultOfBank("rank at 1 pay 1;rank at 2 pay 1;rank at 3 pay 1;rank at 4 pay 1;rank at 5 pay 1;rank", 6, 80);
        faultOfBank(times(7, "corner still 1;") + "clerk a in 0;clerk b in 1;clerk c in 2;clerk d in 3;clerk e in 4;"
            + "clerk f in 5;clerk a", 6, 183);
        faultOfBank(times(8, "client sum 1 nerve 1;") + "client x", 6, 168);
    }

    private static void decadesTaken() {
        promise = 11;
        WebBank x = with(BANK);
        String all = "year 1;move ann 1;swap ann ann;fan ann 50;dust ann;look ann;run;any;when rank ann<0;end;"
            + "when looks bob > 99;end;when cash = 9999;stop;end;loop 99;loop 1;when cash<0;end;end;end;";
        due("all steps", decades(x, all), 15);
        due("30 steps", decades(x, times(30, "run;")), 30);
        due("to the last corner", decades(x, "move ann 3;"), 1);
        due("the least and the most", decades(x, "year 20;fan ann 1;loop 1;end;when looks ann<0;end;"
            + "when rank ann=5;end;when cash=0;end;"), 6);
        due("300 bytes", decades(x, times(10, "loop 1;end;") + times(190, " ")), 10);
        due("an empty text", decades(x, ""), 0);
        due("live() of no steps", x.live(5), 0);
        for (int i = 0; i < 16; i++) x.feed(0x20202020, 0x20202020, 0x20202020, 0x20202020, 0x20202020);
        refused(x, "decades(301)", x.decades(301), 1);
        refused(x, "decades(321)", x.decades(321), 1);
        refused(x, "decades(-1)", x.decades(-1), 1);
        due("the tape stays with 1", x.decades(300), 0);
        refused(x, "the tape is empty", x.decades(1), 1);
    }

    private static void decadesFaults() {
        promise = 11;
        faultOfDecades("run;#", 1, 4);
        faultOfDecades("year 00001;", 1, 5);
        faultOfDecades("end;", 2, 0);
        faultOfDecades("odds 3;", 2, 0);
        faultOfDecades("looks ann > 3;", 2, 0);
        faultOfDecades("ann", 2, 0);
        faultOfDecades("run", 2, 3);
        faultOfDecades("run 3;", 2, 4);
        faultOfDecades("loop 3;run;", 2, 11);
        faultOfDecades("loop 3;end", 2, 10);
        faultOfDecades("loop 3;end;end;", 2, 11);
        faultOfDecades("year;", 2, 4);
        faultOfDecades("move 1;", 2, 5);
        faultOfDecades("move year 1;", 2, 5);
        faultOfDecades("move nineletter 1;", 2, 5);
        faultOfDecades("swap ann;", 2, 8);
        faultOfDecades("when odds > 3;", 2, 5);
        faultOfDecades("when cash ann > 3;", 2, 10);
        faultOfDecades("when rank > 3;", 2, 10);
        faultOfDecades("when cash ; 3;", 2, 10);
        faultOfDecades("when cash > = 3;", 2, 12);
        faultOfDecades("dust bob;", 3, 5);
        faultOfDecades("swap ann bob;", 3, 9);
        faultOfDecades("swap bob ann;", 3, 5);
        faultOfDecades("look an;", 3, 5);
        faultOfDecades("when rank bob > 9;", 3, 10);
        faultOfDecades("year 0;", 4, 5);
        faultOfDecades("year 21;", 4, 5);
        faultOfDecades("move ann 2;", 4, 9);
        faultOfDecades("fan ann 0;", 4, 8);
        faultOfDecades("fan ann 51;", 4, 8);
        faultOfDecades("loop 0;", 4, 5);
        faultOfDecades("loop 100;", 4, 5);
        faultOfDecades("when rank ann = 6;", 4, 16);
        faultOfDecades("when looks ann = 100;", 4, 17);
        faultOfDecades(times(30, "run;") + "run", 6, 120);
        faultOfDecades("loop 1;loop 1;loop 1;" + times(27, "run;") + "loop", 6, 129);
        faultOfDecades("loop 1;when cash>1;loop 1;when", 7, 26);
        faultOfDecades("loop 1;end;when cash>1;loop 1;loop 1;end;loop 1;loop", 7, 48);
    }

    private static void nobodyNamesTheHired() {
        promise = 11;
        WebBank x = with("corner still 1;corner still 1;clerk ann in 0;");
        x.hire(1);
        for (char name = 'a'; name <= 'z'; name++) refused(x, "dust " + name, decades(x, "dust " + name + ";"), 9);
        due("the named one", decades(x, "dust ann;move ann 1;"), 2);
        due("live(0)", x.live(0), 2);
        due("lived(0)", x.lived(0), 2);
    }

    private static void fault() {
        promise = 12;
        WebBank x = new WebBank();
        due("fault(0) ahead of any", x.fault(0), -1);
        due("fault(1) ahead of any", x.fault(1), -1);
        x.bank(5);
        due("fault(0) behind 1", x.fault(0), -1);
        bank(x, "odds 99;");
        due("fault(0)", x.fault(0), 4);
        due("fault(1)", x.fault(1), 5);
        due("fault(2)", x.fault(2), -1);
        due("fault(-1)", x.fault(-1), -1);
        x.bank(7);
        x.decades(301);
        due("fault(0) behind 1", x.fault(0), 4);
        due("fault(1) behind 1", x.fault(1), 5);
        bank(x, "odds 9;");
        due("fault(0) without one", x.fault(0), 0);
        due("fault(1) without one", x.fault(1), -1);
        decades(x, "run;end;");
        due("fault(0) of decades", x.fault(0), 2);
        due("fault(1) of decades", x.fault(1), 4);
        decades(x, "run;");
        due("fault(0) without one", x.fault(0), 0);
    }

    // ---- 13 to 18

    private static void told() {
        promise = 13;
        WebBank x = with(BANK);
        refused(x, "told(-1)", x.told(-1), 1);
        refused(x, "told(11)", x.told(11), 1);
        x.rule(5, 4);
        due("year(2)", x.year(2), 4);
        int[] told = {4, 3, 3, 3, 8, 0, 2, 4, 4, 143, 22};
        for (int what = 0; what < told.length; what++) due("told(" + what + ")", x.told(what), told[what]);
    }

    private static void cornerRankClerkClient() {
        promise = 14;
        WebBank x = with(BANK);
        int[] still = {3, 0, 9, 5};
        int[] sitter = {0, 1, -1, 2};
        for (int i = 0; i < 4; i++) {
            due("corner(" + i + ", 0)", x.corner(i, 0), still[i]);
            due("corner(" + i + ", 1)", x.corner(i, 1), sitter[i]);
            due("status()", x.status(), i == 2 ? 6 : 0);
        }
        refused(x, "corner(4, 0)", x.corner(4, 0), 1);
        refused(x, "corner(-1, 1)", x.corner(-1, 1), 1);
        refused(x, "corner(0, 2)", x.corner(0, 2), 1);
        refused(x, "corner(0, -1)", x.corner(0, -1), 1);
        promise = 15;
        int[][] ranks = {{10, 2, 3}, {30, 5, 0}, {60, 1, 4}};
        for (int i = 0; i < 9; i++) due("rank(" + i / 3 + ", " + i % 3 + ")", x.rank(i / 3, i % 3), ranks[i / 3][i % 3]);
        refused(x, "rank(3, 0)", x.rank(3, 0), 1);
        refused(x, "rank(-1, 0)", x.rank(-1, 0), 1);
        refused(x, "rank(0, 3)", x.rank(0, 3), 1);
        refused(x, "rank(0, -1)", x.rank(0, -1), 1);
        promise = 16;
        int[][] clerks = {{0, 3, 9, 4, 13, 0, 0}, {1, 999, 29, 0, 29, 0, 0}, {3, 0, 95, 99, 99, 0, 0}};
        for (int i = 0; i < 21; i++) {
            due("clerk(" + i / 7 + ", " + i % 7 + ")", x.clerk(i / 7, i % 7), clerks[i / 7][i % 7]);
        }
        refused(x, "clerk(3, 0)", x.clerk(3, 0), 1);
        refused(x, "clerk(-1, 0)", x.clerk(-1, 0), 1);
        refused(x, "clerk(0, 7)", x.clerk(0, 7), 1);
        refused(x, "clerk(0, -1)", x.clerk(0, -1), 1);
        promise = 18;
        int[][] clients = {{10, 0}, {5, 10}, {7, 16}};
        for (int i = 0; i < 6; i++) due("client(" + i / 2 + ", " + i % 2 + ")", x.client(i / 2, i % 2), clients[i / 2][i % 2]);
        refused(x, "client(3, 0)", x.client(3, 0), 1);
        refused(x, "client(-1, 0)", x.client(-1, 0), 1);
        refused(x, "client(0, 2)", x.client(0, 2), 1);
        refused(x, "client(0, -1)", x.client(0, -1), 1);
    }

    private static void rankOf() {
        promise = 17;
        WebBank x = with("corner still 0;corner still 0;corner still 0;corner still 0;rank at 1 pay 9;rank at 50 pay 1;"
            + "clerk a in 0;clerk b in 1 grey 1;clerk c in 2 grey 49;clerk d in 3 grey 1 sham 49;");
        refused(x, "rankOf(0)", x.rankOf(0), 6);
        due("rankOf(1)", x.rankOf(1), 0);
        due("rankOf(2)", x.rankOf(2), 0);
        due("rankOf(3)", x.rankOf(3), 1);
        refused(x, "rankOf(4)", x.rankOf(4), 1);
        refused(x, "rankOf(-1)", x.rankOf(-1), 1);
        due("rank(0, 2)", x.rank(0, 2), 6);
        due("rank(1, 2)", x.rank(1, 2), 8);
    }

    // ---- 19 to 29

    private static void year() {
        promise = 19;
        // ann 13: 2, bob 29: 2, cat 99: 1; ann, bob, cat, one by one from 4.
        WebBank x = with(BANK);
        x.rule(5, 4);
        due("year(1)", x.year(1), 4);
        int[] ann = {0, 4, 12, 4, 16, 2, 0};
        int[] bob = {1, 999, 29, 0, 29, 2, 0};
        int[] cat = {3, 1, 99, 99, 99, 0, 1};
        for (int i = 0; i < 7; i++) {
            due("clerk(0, " + i + ")", x.clerk(0, i), ann[i]);
            due("clerk(1, " + i + ")", x.clerk(1, i), bob[i]);
            due("clerk(2, " + i + ")", x.clerk(2, i), cat[i]);
        }
        x.rule(5, 1);
        due("who is behind gets what is left", x.year(1), 1);
        due("clerk(2, 5)", x.clerk(2, 5), 1);
        due("told(7)", x.told(7), 3);
        refused(x, "year(0)", x.year(0), 1);
        refused(x, "year(100)", x.year(100), 1);
        refused(x, "year(-1)", x.year(-1), 1);
        WebBank y = with("corner still 1;rank at 5 pay 3;clerk a in 0;");
        due("no rank, no pay", y.year(5), 0);
        due("nor is he unpaid", y.told(7), 0);
        due("then he is of one", y.year(2), 6);
        for (int i = 0; i < 100; i++) y.year(99);
        due("told(6)", y.told(6), 9907);
        refused(y, "year(93)", y.year(93), 4);
        refused(y, "year(100), 1 ahead of 4", y.year(100), 1);
        due("told(6) stays", y.told(6), 9907);
        due("year(92)", y.year(92), 0);
        refused(y, "year(1)", y.year(1), 4);
        due("told(6)", y.told(6), 9999);
        due("told(8)", y.told(8), 99);
        due("clerk(0, 1)", y.clerk(0, 1), 999);
    }

    private static void moveAndSwap() {
        promise = 20;
        WebBank x = with(BANK);
        due("move(0, 2)", x.move(0, 2), 4);
        due("clerk(0, 0)", x.clerk(0, 0), 2);
        due("clerk(0, 3)", x.clerk(0, 3), 0);
        due("corner(0, 1)", x.corner(0, 1), -1);
        due("corner(2, 1)", x.corner(2, 1), 0);
        refused(x, "to a corner in which one sits", x.move(0, 1), 7);
        refused(x, "to his own", x.move(0, 2), 7);
        refused(x, "move(0, 4)", x.move(0, 4), 1);
        refused(x, "move(0, -1)", x.move(0, -1), 1);
        refused(x, "move(3, 0)", x.move(3, 0), 1);
        refused(x, "move(-1, 0)", x.move(-1, 0), 1);
        due("grey stays", x.clerk(0, 2), 4);
        promise = 21;
        due("swap(1, 2)", x.swap(1, 2), 14 + 47);
        due("clerk(1, 0)", x.clerk(1, 0), 3);
        due("clerk(2, 0)", x.clerk(2, 0), 1);
        due("clerk(2, 2)", x.clerk(2, 2), 47);
        due("clerk(2, 3)", x.clerk(2, 3), 0);
        refused(x, "swap(1, 1)", x.swap(1, 1), 1);
        refused(x, "swap(0, 3)", x.swap(0, 3), 1);
        refused(x, "swap(3, 0)", x.swap(3, 0), 1);
        refused(x, "swap(-1, 0)", x.swap(-1, 0), 1);
    }

    private static void fanDustLook() {
        promise = 22;
        WebBank x = with(BANK);
        due("fan(0, 50)", x.fan(0, 50), 54);
        due("clerk(0, 4)", x.clerk(0, 4), 63);
        due("fan(0, 1)", x.fan(0, 1), 55);
        due("fan(0, 50)", x.fan(0, 50), 99);
        refused(x, "fan of 99", x.fan(0, 1), 7);
        refused(x, "fan(1, 0)", x.fan(1, 0), 1);
        refused(x, "fan(1, 51)", x.fan(1, 51), 1);
        refused(x, "fan(3, 1)", x.fan(3, 1), 1);
        refused(x, "fan(-1, 1)", x.fan(-1, 1), 1);
        due("clerk(0, 4)", x.clerk(0, 4), 99);
        promise = 23;
        due("dust(2)", x.dust(2), 194);
        due("clerk(2, 4)", x.clerk(2, 4), 0);
        refused(x, "dust of neither", x.dust(2), 7);
        due("dust of grey alone", x.dust(1), 29);
        x.fan(1, 5);
        due("dust of sham alone", x.dust(1), 5);
        refused(x, "dust(3)", x.dust(3), 1);
        refused(x, "dust(-1)", x.dust(-1), 1);
        promise = 24;
        due("look(0)", x.look(0), 99);
        due("clerk(0, 2)", x.clerk(0, 2), 9);
        due("clerk(0, 3)", x.clerk(0, 3), 0);
        refused(x, "look at none", x.look(0), 7);
        refused(x, "look(3)", x.look(3), 1);
        refused(x, "look(-1)", x.look(-1), 1);
    }

    private static void run() {
        promise = 25;
        WebBank x = with("cash 20;client sum 9 nerve 99;client sum 15 nerve 0;client sum 8 nerve 15;client sum 5 nerve 23;"
            + "client sum 7 nerve 99;");
        due("comes()", x.comes(), 14);
        due("run()", x.run(), 20);
        due("told(5)", x.told(5), 0);
        due("told(3)", x.told(3), 3);
        int[][] left = {{9, 99}, {8, 15}, {7, 99}};
        for (int i = 0; i < 6; i++) due("client(" + i / 2 + ", " + i % 2 + ")", x.client(i / 2, i % 2), left[i / 2][i % 2]);
        refused(x, "nobody comes", x.run(), 7);
        x.open(5, 0);
        x.rule(5, 4);
        due("who comes may get nothing", x.run(), 0);
        due("status()", x.status(), 0);
        due("told(3)", x.told(3), 4);
        due("told(5)", x.told(5), 4);
    }

    private static void hireAndOpen() {
        promise = 26;
        WebBank x = with(times(7, "corner still 2;") + "clerk a in 0 served 9 grey 8 sham 7;");
        due("hire(3)", x.hire(3), 1);
        int[] of = {3, 0, 0, 0, 0, 0, 0};
        for (int i = 0; i < 7; i++) due("clerk(1, " + i + ")", x.clerk(1, i), of[i]);
        refused(x, "where one sits", x.hire(3), 7);
        refused(x, "hire(7)", x.hire(7), 1);
        refused(x, "hire(-1)", x.hire(-1), 1);
        for (int i = 2; i < 6; i++) due("hire", x.hire(i < 3 ? 1 : i + 1), i);
        refused(x, "a seventh, ahead of 7", x.hire(0), 4);
        refused(x, "a seventh", x.hire(2), 4);
        refused(x, "hire(7), ahead of 4", x.hire(7), 1);
        due("told(2)", x.told(2), 6);
        promise = 27;
        due("open(99, 999)", x.open(99, 999), 0);
        due("told(5)", x.told(5), 199);
        due("client(0, 1)", x.client(0, 1), 999);
        due("open(1, 0)", x.open(1, 0), 1);
        refused(x, "open(0, 0)", x.open(0, 0), 1);
        refused(x, "open(100, 0)", x.open(100, 0), 1);
        refused(x, "open(1, -1)", x.open(1, -1), 1);
        refused(x, "open(1, 1000)", x.open(1, 1000), 1);
        x.rule(5, 9950);
        for (int i = 2; i < 8; i++) due("open", x.open(60, 5), i);
        due("cash at most", x.told(5), 9999);
        x.rule(5, 10);
        refused(x, "a ninth", x.open(1, 0), 4);
        refused(x, "1 ahead of 4", x.open(0, 0), 1);
        due("told(5) stays", x.told(5), 10);
    }

    private static void calmAndRule() {
        promise = 28;
        WebBank x = with(BANK);
        due("calm(0, 9)", x.calm(0, 9), 3);
        due("calm(0, 0)", x.calm(0, 0), 9);
        due("corner(0, 0)", x.corner(0, 0), 0);
        refused(x, "calm(4, 0)", x.calm(4, 0), 1);
        refused(x, "calm(-1, 0)", x.calm(-1, 0), 1);
        refused(x, "calm(0, 10)", x.calm(0, 10), 1);
        refused(x, "calm(0, -1)", x.calm(0, -1), 1);
        due("corner(0, 0) stays", x.corner(0, 0), 0);
        promise = 29;
        due("rule(4, 16)", x.rule(4, 16), true);
        due("told(4)", x.told(4), 16);
        due("rule(4, 0)", x.rule(4, 0), true);
        due("rule(5, 9999)", x.rule(5, 9999), true);
        due("rule(5, 0)", x.rule(5, 0), true);
        due("told(5)", x.told(5), 0);
        refused(x, "rule(4, 17)", x.rule(4, 17), 1);
        refused(x, "rule(4, -1)", x.rule(4, -1), 1);
        refused(x, "rule(5, 10000)", x.rule(5, 10000), 1);
        refused(x, "rule(5, -1)", x.rule(5, -1), 1);
        refused(x, "rule(3, 1)", x.rule(3, 1), 1);
        refused(x, "rule(6, 1)", x.rule(6, 1), 1);
    }

    // ---- 30 to 33

    private static void yearsAhead() {
        WebBank x = with(BANK);
        promise = 30;
        due("greyIn(0, 0)", x.greyIn(0, 0), 9);
        due("greyIn(0, 29)", x.greyIn(0, 29), 96);
        due("greyIn(0, 40)", x.greyIn(0, 40), 99);
        due("greyIn(1, 40)", x.greyIn(1, 40), 29);
        refused(x, "greyIn(0, 41)", x.greyIn(0, 41), 1);
        refused(x, "greyIn(0, -1)", x.greyIn(0, -1), 1);
        refused(x, "greyIn(3, 0)", x.greyIn(3, 0), 1);
        refused(x, "greyIn(-1, 0)", x.greyIn(-1, 0), 1);
        promise = 31;
        due("rankIn(0, 5)", x.rankIn(0, 5), 0);
        due("rankIn(0, 6)", x.rankIn(0, 6), 1);
        due("rankIn(0, 40)", x.rankIn(0, 40), 2);
        due("rankIn(1, 40)", x.rankIn(1, 40), 0);
        refused(x, "rankIn(0, 41)", x.rankIn(0, 41), 1);
        refused(x, "rankIn(0, -1)", x.rankIn(0, -1), 1);
        refused(x, "rankIn(3, 0)", x.rankIn(3, 0), 1);
        x.dust(1);
        refused(x, "of none", x.rankIn(1, 40), 6);
        promise = 33;
        x = with(BANK);
        int[] cash = {20, 15, 10, 5, 0, 0};
        for (int i = 0; i < cash.length; i++) due("cashIn(" + i + ")", x.cashIn(i), cash[i]);
        x.rule(5, 4);
        due("what is there is paid to those behind", x.cashIn(1), 0);
        x.rule(5, 3);
        due("who can't be paid is passed over", x.cashIn(1), 0);
        x.rule(5, 1);
        due("cashIn(1)", x.cashIn(1), 0);
        refused(x, "cashIn(41)", x.cashIn(41), 1);
        refused(x, "cashIn(-1)", x.cashIn(-1), 1);
        due("told(5) stays", x.told(5), 1);
        due("told(6) stays", x.told(6), 0);
        due("told(7) stays", x.told(7), 0);
        promise = 32;
        x = with(BANK);
        due("unpaidIn()", x.unpaidIn(), 5);
        x.rule(5, 4);
        due("unpaidIn() at once", x.unpaidIn(), 1);
        x.year(1);
        due("unpaid already", x.told(7), 1);
        due("unpaidIn() anew", x.unpaidIn(), 1);
        WebBank y = with("cash 98;corner still 0;rank at 0 pay 1;clerk a in 0;");
        due("in the last that counts", y.unpaidIn(), 99);
        y.rule(5, 99);
        refused(y, "in none", y.unpaidIn(), 6);
        for (int i = 0; i < 101; i++) y.year(99);
        y.rule(5, 50);
        due("YEAR 9,999 does not matter", y.unpaidIn(), 51);
        due("nor to cashIn(40)", y.cashIn(40), 10);
    }

    // ---- 34 to 39

    private static void seating() {
        WebBank x = with(BANK);
        promise = 34;
        due("seating(0): all stay", x.seating(0), 133);
        // ann 39 in 0, or 4 + 90 in 2; bob 29, or 14 + 90 in 2, or 14 + 30 in 0; cat 99 in 3.
        due("seating(10)", x.seating(10), 39 + 99 + 99);
        promise = 35;
        due("seatOf(0, 0)", x.seatOf(0, 0), 0);
        due("seatOf(0, 2)", x.seatOf(0, 2), 3);
        due("seatOf(10, 0)", x.seatOf(10, 0), 0);
        due("seatOf(10, 1)", x.seatOf(10, 1), 2);
        due("seatOf(10, 2)", x.seatOf(10, 2), 3);
        refused(x, "seatOf(41, 0)", x.seatOf(41, 0), 1);
        refused(x, "seatOf(-1, 0)", x.seatOf(-1, 0), 1);
        refused(x, "seatOf(0, 3)", x.seatOf(0, 3), 1);
        refused(x, "seatOf(0, -1)", x.seatOf(0, -1), 1);
        WebBank y = with("corner still 2;corner still 2;corner still 2;clerk a in 2;clerk b in 1;");
        due("of several the first by clerks: a", y.seatOf(3, 0), 0);
        due("of several the first by clerks: b", y.seatOf(3, 1), 1);
        WebBank z = with("corner still 0;corner still 5;clerk a in 1 grey 40;clerk b in 0 grey 90;");
        due("who sits elsewhere has moved", z.seating(9), 85 + 90);
        due("z.seatOf(9, 0)", z.seatOf(9, 0), 1);
        promise = 34;
        refused(x, "seating(41)", x.seating(41), 1);
        refused(x, "seating(-1)", x.seating(-1), 1);
        due("nobody", with("").seating(40), 0);
        due("all stays", x.clerk(1, 0), 1);
        WebBank full = with("corner still 1;corner still 2;corner still 3;corner still 4;corner still 5;corner still 6;"
            + "corner still 7;clerk a in 0;clerk b in 1;clerk c in 2;clerk d in 3;clerk e in 4;clerk f in 5;");
        due("six in seven", full.seating(10), 270);
        due("the first sits in the first of those", full.seatOf(10, 0), 1);
        due("the last", full.seatOf(10, 5), 6);
    }

    private static void liked() {
        WebBank x = with("corner still 0;corner still 9;corner still 5;clerk a in 0 grey 40;clerk b in 1 grey 98;"
            + "clerk c in 2 grey 0;");
        promise = 37;
        due("isLiked(20, 0, 1)", x.isLiked(20, 0, 1), 1);
        due("isLiked(20, 1, 0)", x.isLiked(20, 1, 0), 1);
        due("isLiked(1, 0, 1)", x.isLiked(1, 0, 1), 0);
        // By 4 as many without as with: 20 + 20 against 40 + 0.
        due("isLiked(4, 0, 2)", x.isLiked(4, 0, 2), 0);
        due("isLiked(20, 0, 2)", x.isLiked(20, 0, 2), 0);
        x.calm(2, 9);
        x.fan(2, 9);
        due("isLiked(40, 0, 2)", x.isLiked(40, 0, 2), 0);
        refused(x, "isLiked(1, 0, 0)", x.isLiked(1, 0, 0), 1);
        refused(x, "isLiked(1, 0, 3)", x.isLiked(1, 0, 3), 1);
        refused(x, "isLiked(1, -1, 0)", x.isLiked(1, -1, 0), 1);
        refused(x, "isLiked(41, 0, 1)", x.isLiked(41, 0, 1), 1);
        refused(x, "isLiked(-1, 0, 1)", x.isLiked(-1, 0, 1), 1);
        promise = 36;
        due("liked(0)", x.liked(0), 0);
        due("liked(20)", x.liked(20), 1);
        refused(x, "liked(41)", x.liked(41), 1);
        refused(x, "liked(-1)", x.liked(-1), 1);
        due("all stays", x.clerk(0, 2), 40);
    }

    private static void soon() {
        // ann 9 and 4 in 0 by 3; corner 2 by 9 is free.
        WebBank x = with(BANK);
        promise = 38;
        due("soon(0, 0)", x.soon(0, 0), 0);
        due("soon(0, 1)", x.soon(0, 1), 3);
        due("soon(0, 2)", x.soon(0, 2), 7);
        due("soon(2, 1): a higher one", x.soon(2, 1), 0);
        promise = 39;
        due("soonAt(0, 0)", x.soonAt(0, 0), 0);
        due("soonAt(0, 1)", x.soonAt(0, 1), 2);
        due("soonAt(2, 1)", x.soonAt(2, 1), 3);
        WebBank y = with("corner still 4;corner still 4;corner still 4;corner still 0;rank at 40 pay 1;rank at 99 pay 1;"
            + "clerk a in 2;clerk b in 3 grey 1;");
        due("as soon his own", y.soonAt(0, 0), 2);
        due("else the first", y.soonAt(1, 0), 0);
        y.fan(1, 41);
        due("with his sham he stays", y.soonAt(1, 0), 3);
        due("sham is gone, if he moves", y.soon(1, 1), 25);
        promise = 38;
        WebBank z = with("corner still 1;corner still 0;rank at 99 pay 1;clerk a in 0;clerk b in 1;");
        due("99 years", z.soon(0, 0), 99);
        refused(z, "in none: another one sits there", z.soon(1, 0), 6);
        promise = 39;
        refused(z, "in none", z.soonAt(1, 0), 6);
        refused(x, "soonAt(3, 0)", x.soonAt(3, 0), 1);
        refused(x, "soonAt(-1, 0)", x.soonAt(-1, 0), 1);
        refused(x, "soonAt(0, 3)", x.soonAt(0, 3), 1);
        refused(x, "soonAt(0, -1)", x.soonAt(0, -1), 1);
        promise = 38;
        refused(x, "soon(3, 0)", x.soon(3, 0), 1);
        refused(x, "soon(-1, 0)", x.soon(-1, 0), 1);
        refused(x, "soon(0, 3)", x.soon(0, 3), 1);
        refused(x, "soon(0, -1)", x.soon(0, -1), 1);
    }

    // ---- 40, 41

    private static void fans() {
        WebBank x = with(BANK);
        promise = 40;
        due("worth(0, 17, 3)", x.worth(0, 17, 3), 9);
        due("worth(0, 17, 0)", x.worth(0, 17, 0), 0);
        due("worth(0, 0, 40)", x.worth(0, 0, 40), 0);
        due("below 0", x.worth(1, 31, 2), -2);
        due("worth(1, 31, 1)", x.worth(1, 31, 1), -1);
        due("status() tells it from NONE", x.status(), 0);
        due("of one who looks 99", x.worth(2, 99, 40), 0);
        x.rule(5, 0);
        due("cash does not matter", x.worth(0, 17, 3), 9);
        WebBank y = with("corner still 0;rank at 99 pay 50;clerk a in 0 grey 5 sham 90;");
        due("99 at most", y.worth(0, 99, 40), 2000);
        due("worth(0, 3, 40)", y.worth(0, 3, 40), 0);
        due("worth(0, 4, 40)", y.worth(0, 4, 40), 2000);
        refused(x, "worth(3, 0, 0)", x.worth(3, 0, 0), 1);
        refused(x, "worth(-1, 0, 0)", x.worth(-1, 0, 0), 1);
        refused(x, "worth(0, 100, 0)", x.worth(0, 100, 0), 1);
        refused(x, "worth(0, -1, 0)", x.worth(0, -1, 0), 1);
        refused(x, "worth(0, 0, 41)", x.worth(0, 0, 41), 1);
        refused(x, "worth(0, 0, -1)", x.worth(0, 0, -1), 1);
        promise = 41;
        due("leastFan(0, 0)", x.leastFan(0, 0), 0);
        due("leastFan(0, 1)", x.leastFan(0, 1), 17);
        due("leastFan(1, 2)", x.leastFan(1, 2), 31);
        due("leastFan(2, 0)", x.leastFan(2, 0), 0);
        due("leastFan of 99", y.leastFan(0, 0), 4);
        refused(x, "leastFan(3, 0)", x.leastFan(3, 0), 1);
        refused(x, "leastFan(-1, 0)", x.leastFan(-1, 0), 1);
        refused(x, "leastFan(0, 3)", x.leastFan(0, 3), 1);
        refused(x, "leastFan(0, -1)", x.leastFan(0, -1), 1);
    }

    // ---- 42 to 44

    private static void stills() {
        WebBank x = new WebBank();
        promise = 42;
        refused(x, "fits of a missing one", x.fits(0, 0), 2);
        x.tray(0, 3, 5);
        due("of no twos", x.fits(0, 0), 10);
        due("no years, no grey", x.fits(0, 1), 10);
        x.write(0, 0, 33);
        x.write(0, 1, 99);
        due("33 years, 99", x.fits(0, 1), 7);
        x.write(0, 2, 12);
        x.write(0, 3, 96);
        due("12 years, 96, too", x.fits(0, 2), 1);
        refused(x, "too few numbers", x.fits(0, 3), 3);
        x.write(0, 3, 100);
        refused(x, "grey 100", x.fits(0, 2), 5);
        due("behind the first twos all may be", x.fits(0, 1), 7);
        x.write(0, 2, 100);
        due("just behind them, too", x.fits(0, 1), 7);
        x.write(0, 2, 12);
        x.write(0, 3, -1);
        refused(x, "grey -1", x.fits(0, 2), 5);
        x.write(0, 3, 1L << 32);
        refused(x, "grey beyond an int", x.fits(0, 2), 5);
        x.write(0, 3, 50);
        due("none fits", x.fits(0, 2), 0);
        x.write(0, 0, 100);
        refused(x, "years 100", x.fits(0, 1), 5);
        refused(x, "3 ahead of 5", x.fits(0, 3), 3);
        refused(x, "fits(0, 21)", x.fits(0, 21), 1);
        refused(x, "fits(0, -1)", x.fits(0, -1), 1);
        refused(x, "fits(4, 0)", x.fits(4, 0), 1);
        refused(x, "fits(-1, 0)", x.fits(-1, 0), 1);
        x.tray(1, 0, 40);
        due("twenty twos", x.fits(1, 20), 10);
        promise = 43;
        x.write(0, 0, 33);
        for (int k = 0; k < 7; k++) due("fitsAt(0, 1, " + k + ")", x.fitsAt(0, 1, k), 3 + k);
        refused(x, "fitsAt(0, 1, 7)", x.fitsAt(0, 1, 7), 6);
        refused(x, "fitsAt(0, 1, -1)", x.fitsAt(0, 1, -1), 1);
        refused(x, "fitsAt(2, 1, -1), 1 ahead of 2", x.fitsAt(2, 1, -1), 1);
        refused(x, "fitsAt(2, 1, 0)", x.fitsAt(2, 1, 0), 2);
        refused(x, "fitsAt(0, 3, 0)", x.fitsAt(0, 3, 0), 3);
        x.write(0, 1, 100);
        refused(x, "fitsAt of grey 100", x.fitsAt(0, 1, 0), 5);
        refused(x, "fitsAt(0, 21, 0)", x.fitsAt(0, 21, 0), 1);
        refused(x, "fitsAt(4, 1, 0)", x.fitsAt(4, 1, 0), 1);
        promise = 44;
        refused(x, "ask of grey 100", x.ask(0, 1), 5);
        x.write(0, 1, 99);
        due("ask(0, 1)", x.ask(0, 1), 1);
        due("ask(0, 0)", x.ask(0, 0), 1);
        x.write(0, 1, 33);
        refused(x, "one alone", x.ask(0, 1), 6);
        x.write(0, 1, 34);
        refused(x, "none", x.ask(0, 1), 6);
        refused(x, "ask(0, 3)", x.ask(0, 3), 3);
        refused(x, "ask(2, 0)", x.ask(2, 0), 2);
        refused(x, "ask(0, -1)", x.ask(0, -1), 1);
        refused(x, "ask(0, 21)", x.ask(0, 21), 1);
        refused(x, "ask(4, 0)", x.ask(4, 0), 1);
    }

    // ---- 45 to 48

    private static void runsAhead() {
        WebBank x = with("cash 30;client sum 9 nerve 99;client sum 15 nerve 0;client sum 8 nerve 15;client sum 5 nerve 23;"
            + "client sum 7 nerve 29;");
        promise = 45;
        // 1 comes; by 15 client 2; by 23 client 3; by 28 none more.
        due("comes()", x.comes(), 2 + 4 + 8);
        x.open(1, 0);
        due("one more brings another, who brings none", x.comes(), 2 + 4 + 8 + 16 + 32);
        promise = 46;
        due("comesFor()", x.comesFor(), 36);
        due("nobody", with("").comesFor(), 0);
        due("client 0, too", with(CLIENTS).comesFor(), 15);
        due("one by one, from behind", with("client sum 1 nerve 3;client sum 1 nerve 2;client sum 1 nerve 1;"
            + "client sum 1 nerve 0;").comesFor(), 4);
        promise = 47;
        x.rule(5, 36);
        due("calms() by as much cash", x.calms(), 0);
        promise = 48;
        due("calmSet()", x.calmSet(), 0);
        x.rule(5, 35);
        due("the least set of one", x.calmSet(), 2);
        promise = 47;
        due("calms()", x.calms(), 1);
        x.rule(5, 0);
        due("calms() by no cash: both who begin", x.calms(), 2);
        promise = 48;
        due("calmSet()", x.calmSet(), 2 + 32);
        WebBank y = with("cash 10;client sum 5 nerve 0;client sum 9 nerve 0;client sum 6 nerve 0;");
        due("one is not enough for 20 by 10", y.calmSet(), 3);
        y.rule(5, 11);
        due("the last two come", y.calmSet(), 2);
        y.rule(5, 9);
        due("the first as a number", y.calmSet(), 3);
        promise = 45;
        due("all stays", y.comes(), 7);
        // His own sum does not count for him.
        due("nobody begins", with("client sum 9 nerve 1;client sum 9 nerve 9;").comes(), 0);
    }

    // ---- 49 to 53

    private static void games() {
        WebBank x = with("corner still 5;corner still 5;corner still 0;corner still 9;rank at 20 pay 1;rank at 50 pay 1;"
            + "clerk a in 0 grey 30;clerk b in 1 grey 16;clerk c in 2 grey 10 sham 20;clerk d in 3 grey 45 sham 3;");
        promise = 49;
        due("game(0, 0)", x.game(0, 0), 3);
        due("a higher rank counts, too", x.game(1, 0), 0);
        due("game(1, 1)", x.game(1, 1), 1);
        due("game(1, 2)", x.game(1, 2), 1);
        due("game(0, 1)", x.game(0, 1), 4);
        // Either b comes up and a goes down, or a is kept and none comes up.
        due("game(0, 2)", x.game(0, 2), 3);
        due("game(0, 3)", x.game(0, 3), 3);
        due("game(0, 4)", x.game(0, 4), 3);
        refused(x, "game(2, 0)", x.game(2, 0), 1);
        refused(x, "game(-1, 0)", x.game(-1, 0), 1);
        refused(x, "game(0, 5)", x.game(0, 5), 1);
        refused(x, "game(0, -1)", x.game(0, -1), 1);
        promise = 50;
        due("who(0, 1)", x.who(0, 1), 1);
        due("who(1, 1)", x.who(1, 1), 3);
        due("of all as good the first", x.who(0, 2), 0);
        due("who(0, 3)", x.who(0, 3), 0);
        refused(x, "who(0, 0)", x.who(0, 0), 1);
        refused(x, "who(0, 5)", x.who(0, 5), 1);
        refused(x, "who(2, 1)", x.who(2, 1), 1);
        refused(x, "who(-1, 1)", x.who(-1, 1), 1);
        WebBank y = with("rank at 0 pay 0;");
        refused(y, "nobody to choose", y.who(0, 4), 6);
        promise = 49;
        due("game of nobody", y.game(0, 4), 0);
        due("all stays", x.clerk(1, 2), 16);
        WebBank z = with("corner still 0;corner still 0;rank at 5 pay 0;clerk a in 0 grey 9;clerk b in 1 grey 11;");
        due("9 halved is 4", z.game(0, 2), 2);
        due("11 halved is 5: a is kept", z.who(0, 2), 0);
        WebBank w = with("corner still 9;rank at 99 pay 0;clerk a in 0 grey 95;");
        due("99 at most", w.game(0, 1), 1);
        due("one year, no more", with("corner still 4;rank at 8 pay 0;clerk a in 0;").game(0, 1), 0);
        WebBank v = with("corner still 2;corner still 0;corner still 0;rank at 20 pay 0;clerk a in 0 grey 18;"
            + "clerk b in 1 grey 20;clerk c in 2 grey 50;");
        due("just AT counts", v.game(0, 0), 2);
        due("v.game(0, 4)", v.game(0, 4), 2);
        due("v.who(0, 4)", v.who(0, 4), 0);
        due("what one chose the other can't", w.game(0, 2), 1);
    }

    private static void shamsAndShare() {
        promise = 51;
        WebBank x = with("odds 4;corner still 0;corner still 0;corner still 0;clerk a in 0;clerk b in 1 grey 6;"
            + "clerk c in 2 grey 9;");
        fraction(x, "shams(0)", x.shams(0), 1, 1);
        fraction(x, "shams(1)", x.shams(1), 37, 64);
        fraction(x, "shams(2)", x.shams(2), 5, 32);
        fraction(x, "shams(3)", x.shams(3), 1, 64);
        fraction(x, "shams(4)", x.shams(4), 0, 1);
        fraction(x, "shams(6)", x.shams(6), 0, 1);
        x.rule(4, 7);
        fraction(x, "shams(3)", x.shams(3), 343, 4096);
        x.rule(4, 0);
        fraction(x, "shams(0) by odds 0", x.shams(0), 1, 1);
        fraction(x, "shams(1) by odds 0", x.shams(1), 0, 1);
        x.rule(4, 16);
        fraction(x, "shams(3) by odds 16", x.shams(3), 1, 1);
        refused(x, "shams(-1)", x.shams(-1), 1);
        refused(x, "shams(7)", x.shams(7), 1);
        due("top() stays", x.top(), 1);
        promise = 52;
        fraction(x, "share(0)", x.share(0), 0, 1);
        fraction(x, "share(1)", x.share(1), 2, 5);
        fraction(x, "share(2)", x.share(2), 3, 5);
        refused(x, "share(3)", x.share(3), 1);
        refused(x, "share(-1)", x.share(-1), 1);
        x.dust(1);
        x.dust(2);
        x.fan(1, 5);
        refused(x, "nobody has grey", x.share(1), 6);
        due("bottom() stays", x.bottom(), 5);
    }

    private static void copyGrey() {
        promise = 53;
        WebBank x = with(BANK);
        refused(x, "to a missing one", x.copyGrey(0), 2);
        x.tray(0, 0, 2);
        refused(x, "too few places", x.copyGrey(0), 3);
        due("nothing was written", x.read(0, 0), 0);
        x.tray(0, 0, 4);
        x.write(0, 3, 77);
        due("copyGrey(0)", x.copyGrey(0), 3);
        long[] grey = {9, 29, 95, 77};
        for (int i = 0; i < 4; i++) due("read(0, " + i + ")", x.read(0, i), grey[i]);
        refused(x, "copyGrey(4)", x.copyGrey(4), 1);
        refused(x, "copyGrey(-1)", x.copyGrey(-1), 1);
        x.tray(1, 3, 3);
        due("just enough places", x.copyGrey(1), 3);
    }

    // ---- 54 to 58

    private static void lived(WebBank x, int missed, int years, int paid, int given, int left) {
        int[] all = {missed, years, paid, given, left};
        for (int what = 0; what < 5; what++) due("lived(" + what + ")", x.lived(what), all[what]);
    }

    private static void live() {
        promise = 54;
        WebBank x = living(BANK, "year 2;fan ann 50;move bob 2;swap ann cat;run;look cat;dust bob;");
        due("live(0)", x.live(0), 7);
        // Paid 5 and 5; 10 are left: client 0 is paid 10; sham of cat was gone by the swap.
        lived(x, 1, 2, 10, 10, 0);
        due("told(9)", x.told(9), 7 + 0 + 49);
        due("told(6)", x.told(6), 2);
        due("told(5)", x.told(5), 0);
        due("told(3)", x.told(3), 2);
        refused(x, "live(-1)", x.live(-1), 1);
        refused(x, "live(10000)", x.live(10000), 1);
        due("live(9999)", x.live(9999), 7);
        bank(x, BANK);
        refused(x, "no decades", x.live(0), 6);
    }

    private static void liveMissed() {
        promise = 54;
        WebBank x = living("corner still 0;corner still 0;corner still 0;clerk a in 0;clerk b in 1 sham 99;",
            "move a 1;move a 0;swap a a;fan b 1;dust a;look a;run;");
        due("live(0)", x.live(0), 7);
        lived(x, 7, 0, 0, 0, 0);
        WebBank y = living("odds 0;", "any;any;year 1;");
        due("any without clerks", y.live(0), 3);
        lived(y, 2, 1, 0, 0, 0);
        WebBank z = living("odds 16;corner still 3;clerk a in 0;", "any;year 1;any;any;");
        due("any, by odds 16", z.live(3), 4);
        lived(z, 2, 1, 0, 0, 0);
        WebBank w = living("odds 0;corner still 0;clerk a in 0;", "year 20;any;year 2;any;any;");
        for (int i = 0; i < 100; i++) w.year(99);
        w.year(75);
        due("told(6)", w.told(6), 9975);
        due("beyond 9,999", w.live(3), 5);
        due("told(6)", w.told(6), 9999);
        lived(w, 1, 24, 0, 0, 0);
        due("as a whole", w.live(3), 5);
        lived(w, 5, 0, 0, 0, 0);
    }

    private static void liveTests() {
        promise = 54;
        String of = "corner still 1;corner still 1;rank at 10 pay 1;rank at 20 pay 1;clerk a in 0 grey 9;clerk b in 1 grey 20;";
        String[] good = {"rank a = 0", "rank a < 1", "rank b = 2", "rank b > 1", "rank b < 5", "looks a = 9", "looks a < 10",
            "looks b > 19", "cash = 100", "cash > 99", "cash < 101"};
        String[] bad = {"rank a = 1", "rank a < 0", "rank b = 1", "rank b > 2", "looks a = 8", "looks a < 9", "looks b > 20",
            "cash = 99", "cash > 100", "cash < 100"};
        for (String test : good) {
            due("when " + test, living(of, "when " + test + ";run;run;end;run;").live(0), 4);
        }
        for (String test : bad) {
            due("when " + test, living(of, "when " + test + ";run;run;end;run;").live(0), 2);
        }
    }

    private static void liveLoops() {
        promise = 54;
        String of = "corner still 1;clerk a in 0;";
        WebBank x = living(of, "loop 3;year 1;loop 2;year 1;end;end;run;");
        due("loops in loops", x.live(0), 1 + 3 * (1 + 1 + 2) + 1);
        lived(x, 1, 9, 0, 0, 0);
        due("empty loops", living(of, "loop 99;loop 99;end;end;").live(0), 100);
        due("empty all through", living(of, "loop 99;end;when cash=0;end;").live(0), 2);
        WebBank y = living(of, "loop 99;run;run;end;loop 99;run;end;year 1;");
        due("300 steps, the 300th in the middle", y.live(0), 300);
        due("lived(4)", y.lived(4), 0);
        y = living(of, "loop 99;run;run;end;loop 99;run;end;loop 1;year 1;end;");
        due("300 steps", y.live(0), 300);
        due("lived(4)", y.lived(4), 1);
        y = living(of, "loop 99;run;run;end;loop 99;run;end;loop 99;end;");
        due("300 steps, the last of which comes to nothing", y.live(0), 300);
        due("lived(4)", y.lived(4), 0);
        y = living(of, "loop 99;loop 99;year 1;end;end;");
        due("300 steps in loops", y.live(0), 300);
        due("lived(1)", y.lived(1), 99 + 99 + 98);
        due("lived(4)", y.lived(4), 1);
        WebBank z = living(of, "loop 9;year 1;when looks a > 3;stop;end;end;run;");
        due("stop", z.live(0), 1 + 4 * 2 + 1);
        lived(z, 0, 4, 0, 0, 0);
        due("from the beginning again", z.live(0), 4);
        lived(z, 0, 1, 0, 0, 0);
        y = living(of, "loop 99;run;run;end;loop 99;run;end;run;stop;run;");
        due("stop as the 301st", y.live(0), 300);
        due("lived(4)", y.lived(4), 1);
        y = living(of, "loop 99;run;run;end;loop 98;run;end;run;stop;run;");
        due("stop as the 300th", y.live(0), 300);
        due("lived(4)", y.lived(4), 0);
    }

    private static void draws() {
        promise = 54;
        // s: 0, 11471, 36178, 61057, 54844, 31123, 1310, 13653, 57256: draws 1433, 4522, 7632, 6855, 3890, 163, 1706, 7157.
        String of = "odds 11;corner still 1;corner still 1;corner still 1;clerk a in 0 grey 50;clerk b in 1 grey 60;"
            + "clerk c in 2 grey 70;";
        WebBank x = living(of, "any;any;any;any;");
        due("live(0)", x.live(0), 4);
        int[] s = new int[9];
        for (int i = 1; i < 9; i++) s[i] = (s[i - 1] * 3253 + 11471) % 65536;
        int[] grey = {50, 60, 70};
        int years = 0;
        for (int i = 1; i < 9; i += 2) {
            if (s[i + 1] / 8 % 16 < 11) {
                grey[s[i] / 8 % 3] = 0;
            } else {
                years++;
                for (int c = 0; c < 3; c++) grey[c]++;
            }
        }
        for (int c = 0; c < 3; c++) due("clerk(" + c + ", 2)", x.clerk(c, 2), grey[c]);
        due("lived(1)", x.lived(1), years);
        for (int odds = 0; odds <= 16; odds++) {
            WebBank y = living("odds " + odds + ";corner still 1;clerk a in 0 grey 50;", "any;");
            y.mark();
            for (int seed = 0; seed < 40; seed++) {
                int first = (seed * 3253 + 11471) % 65536;
                int luck = (first * 3253 + 11471) % 65536 / 8 % 16;
                y.live(seed);
                due("seed " + seed + " by odds " + odds, y.told(9), luck < odds ? 0 : 51);
                y.undo();
                y.mark();
            }
        }
    }

    private static void livedLatest() {
        promise = 55;
        WebBank x = living(BANK, "year 3;run;");
        refused(x, "lived(0) ahead of any", x.lived(0), 6);
        refused(x, "lived(5)", x.lived(5), 1);
        refused(x, "lived(-1)", x.lived(-1), 1);
        due("year(1)", x.year(1), 5);
        x.rule(5, 20);
        x.live(7);
        // Three years are 15; client 0 is passed over, client 1 is paid.
        lived(x, 0, 3, 15, 5, 0);
        due("of this one alone", x.live(7), 2);
        lived(x, 0, 3, 0, 0, 0);
        x.rule(5, 20);
        x.live(7);
        // 8 and 8; then ann can't be paid her 5, bob and cat are paid 3.
        lived(x, 0, 3, 19, 0, 0);
        x.live(10000);
        x.mean(0, 3);
        x.year(1);
        x.mark();
        x.undo();
        bank(x, "");
        x.live(0);
        lived(x, 0, 3, 19, 0, 0);
        due("status()", x.status(), 0);
    }

    private static void mean() {
        promise = 56;
        String of = "odds 8;corner still 1;corner still 2;clerk a in 0 grey 50;clerk b in 1 grey 61;";
        WebBank x = living(of, "any;any;year 1;");
        refused(x, "mean(-1, 1)", x.mean(-1, 1), 1);
        refused(x, "mean(10000, 1)", x.mean(10000, 1), 1);
        refused(x, "mean(0, 0)", x.mean(0, 0), 1);
        refused(x, "mean(0, 21)", x.mean(0, 21), 1);
        refused(x, "mean(9999, 2)", x.mean(9999, 2), 1);
        refused(x, "mean(9980, 21)", x.mean(9980, 21), 1);
        long all = 0;
        for (int seed = 100; seed < 120; seed++) {
            WebBank y = living(of, "any;any;year 1;");
            y.live(seed);
            all += y.told(9);
        }
        due("mean(100, 20)", x.mean(100, 20), true);
        due("top() by bottom()", x.top() * 20, all * x.bottom());
        WebBank z = living(of, "any;");
        z.live(9999);
        fraction(x = living(of, "any;"), "mean(9999, 1)", x.mean(9999, 1), z.told(9), 1);
        due("mean(9980, 20)", x.mean(9980, 20), true);
        due("all stays: grey", x.told(9), 111);
        due("all stays: the year", x.told(6), 0);
        refused(x, "lived() stays, too", x.lived(0), 6);
        fraction(x = living(of, "dust a;dust b;"), "no grey", x.mean(5, 7), 0, 1);
        fraction(x = living(of, "dust a;"), "without a common divisor", x.mean(5, 7), 61, 1);
        refused(x = with(of), "no decades", x.mean(0, 1), 6);
        due("top() stays", x.top(), 0);
    }

    private static void marks() {
        promise = 57;
        WebBank x = living(BANK, "year 1;run;");
        due("mark()", x.mark(), 1);
        x.year(2);
        x.rule(4, 3);
        due("mark()", x.mark(), 2);
        bank(x, "corner still 1;");
        due("mark()", x.mark(), 3);
        refused(x, "a fourth", x.mark(), 4);
        x.hire(0);
        promise = 58;
        due("undo()", x.undo(), 2);
        due("told(2)", x.told(2), 0);
        refused(x, "no decades there", x.live(0), 6);
        due("undo()", x.undo(), 1);
        due("told(0)", x.told(0), 4);
        due("told(6)", x.told(6), 2);
        due("told(4)", x.told(4), 3);
        due("clerk(0, 5)", x.clerk(0, 5), 4);
        due("the decades are back", x.live(0), 2);
        due("told(3)", x.told(3), 2);
        decades(x, "run;run;run;");
        due("undo()", x.undo(), 0);
        due("told(3)", x.told(3), 3);
        due("client(0, 0)", x.client(0, 0), 10);
        int[] told = {4, 3, 3, 3, 8, 20, 0, 0, 0, 133, 22};
        for (int what = 0; what < told.length; what++) due("told(" + what + ")", x.told(what), told[what]);
        due("the decades that were", x.live(0), 2);
        refused(x, "undo()", x.undo(), 6);
        due("mark() anew", x.mark(), 1);
        x.tray(0, 0, 1);
        x.write(0, 0, 5);
        x.shams(3);
        long top = x.top();
        x.rule(4, 1);
        feed(x, "odds 5;");
        x.undo();
        due("trays stay", x.read(0, 0), 5);
        due("the fraction stays", x.top(), top);
        due("top()", x.top(), 1);
        due("bottom()", x.bottom(), 8);
        due("the tape stays", x.bank(7), 0);
        due("told(4)", x.told(4), 5);
    }

    public static void main(String[] args) {
        aNewObject();
        status();
        topAndBottom();
        trays();
        pour();
        feedAndTape();
        bankTaken();
        bankFaults();
        decadesTaken();
        decadesFaults();
        nobodyNamesTheHired();
        fault();
        told();
        cornerRankClerkClient();
        rankOf();
        year();
        moveAndSwap();
        fanDustLook();
        run();
        hireAndOpen();
        calmAndRule();
        yearsAhead();
        seating();
        liked();
        soon();
        fans();
        stills();
        runsAhead();
        games();
        shamsAndShare();
        copyGrey();
        live();
        liveMissed();
        liveTests();
        liveLoops();
        draws();
        livedLatest();
        mean();
        marks();
        System.out.println(wrong == 0 ? right + " answers are as due" : wrong + " answers are not as due");
        if (wrong != 0) System.exit(1);
    }
}
