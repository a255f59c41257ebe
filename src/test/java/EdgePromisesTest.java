/** The edges that the promises name, 1 to 58. */
public final class EdgePromisesTest extends Edges {
    private static final int FAR = Integer.MAX_VALUE;
    private static final int LOW = Integer.MIN_VALUE;
    /** Corners 0 to 3, the last one free; ann looks 13, bob 29, cat 99. */
    private static final String BANK = "odds 8;cash 20;corner still 3;corner still 0;corner still 5;corner still 9;"
        + "rank at 10 pay 2;rank at 30 pay 5;rank at 60 pay 1;clerk ann in 0 served 3 grey 9 sham 4;"
        + "clerk bob in 1 served 999 grey 29;clerk cat in 2 grey 95 sham 99;"
        + "client sum 10 nerve 0;client sum 5 nerve 10;client sum 7 nerve 16;";
    /** One corner by 1, one clerk, nothing else. */
    private static final String ONE = "corner still 1;clerk ann in 0;";

    /** The call, "$" in which is put by each number: all are refused with 1. */
    private static void refuses1(String bank, String call, int... numbers) {
        for (int number : numbers) run(bank).refuses(1, call.replace("$", "" + number));
    }

    private static void calls() {
        whatItIs();
        edge("An object is used for at most 512 calls after it has been made; what later calls answer is free.", () -> {
            Run x = run();
            for (int call = 1; call <= 510; call++) x.does("year(1)");
            x.gives("told(6)", 510);
        });
    }

    private static void newObject() {
        promise(1);
        edge("A BANK of nothing;", () -> {
            run().gives("told(0)", 0, "told(1)", 0, "told(2)", 0, "told(3)", 0, "told(7)", 0, "told(8)", 0, "told(9)", 0,
                "told(10)", 0).refuses(1, "corner(0, 0)", "rank(0, 0)", "clerk(0, 0)", "client(0, 0)");
        });
        edge("ODDS 4,", () -> run().gives("told(4)", 4));
        edge("CASH 100;", () -> run().gives("told(5)", 100));
        edge("YEAR 0;", () -> run().gives("told(6)", 0));
        edge("no DECADES, MARKS;", () -> run().refuses(6, "live(0)", "mean(0, 1)", "undo()", "lived(0)"));
        edge("TRAYS are MISSING;", () -> run().refuses(2, "read(0, 0)", "read(1, 0)", "read(2, 0)", "read(3, 0)"));
        edge("an empty tape;", () -> run().refuses(1, "bank(1)", "decades(1)").gives("feed(0, 0, 0, 0, 0)", 20));
        edge("the FRACTION 0 by 1;", () -> run().gives("top()", 0, "bottom()", 1));
        edge("STATUS 0.", () -> run().gives("status()", 0));
    }

    private static void statusAndFraction() {
        promise(2);
        edge("STATUS of the latest call that has one.", () -> {
            run().refuses(2, "read(0, 0)").gives("status()", 2, "status()", 2, "top()", 0, "fault(0)", -1, "status()", 2)
                .refuses(1, "told(-1)").gives("status()", 1, "told(0)", 0, "status()", 0);
        });
        promise(3);
        edge("The top of the FRACTION told latest.", () -> {
            run("odds 6;" + ONE).givesFraction("shams(1)", 3, 8).givesFraction("shams(0)", 1, 1).refuses(1, "shams(7)")
                .gives("top()", 1, "top()", 1).refuses(6, "share(0)").gives("top()", 1);
        });
        promise(4);
        edge("Its bottom, above 0.", () -> {
            run("odds 6;" + ONE).givesFraction("shams(1)", 3, 8).refuses(1, "share(-1)").gives("bottom()", 8, "bottom()", 8)
                .givesFraction("shams(2)", 0, 1);
        });
    }

    private static void trays() {
        promise(5);
        edge("A TRAY is a row of so many 0s", () -> {
            Run x = run().gives("tray(1, 2, 3)", 1, "read(1, 0)", 0, "read(1, 2)", 0).refuses(3, "read(1, 3)");
            x.does("write(1, 0, 5)", "write(1, 2, 6)").gives("tray(1, 2, 3)", 1, "read(1, 0)", 0, "read(1, 2)", 0);
            run().gives("tray(0, 3, 60)", 1, "read(0, 59)", 0, "tray(3, 0, 0)", 1);
            x.does("write(1, 2, 6)").gives("tray(1, 2, 1)", 1, "tray(1, 2, 3)", 1, "read(1, 2)", 0, "tray(1, 0, 0)", 1)
                .refuses(3, "read(1, 0)");
        });
        edge("(1).", () -> {
            refuses1("", "tray($, 0, 1)", -1, 4, FAR, LOW);
            refuses1("", "tray(0, $, 1)", -1, 4, FAR, LOW);
            refuses1("", "tray(0, 0, $)", -1, 61, FAR, LOW);
        });
        promise(6);
        edge("A number comes to a place of a TRAY, cut to its sort", () -> {
            run().gives("tray(0, 0, 60)", 1, "write(0, 59, 300)", 1, "read(0, 59)", 44, "read(0, 58)", 0, "write(0, 0, 127)", 1,
                "read(0, 0)", 127, "tray(0, 1, 1)", 1, "write(0, 0, 65540)", 1, "read(0, 0)", 4, "tray(0, 2, 1)", 1,
                "write(0, 0, 4294967297)", 1, "read(0, 0)", 1, "tray(0, 3, 1)", 1, "write(0, 0, 4294967297)", 1,
                "read(0, 0)", 4294967297L);
        });
        edge("(1, 2, 3).", () -> {
            run().gives("tray(0, 0, 2)", 1).refuses(1, "write(-1, 0, 1)", "write(4, 0, 1)", "write(4, 9, 1)")
                .refuses(2, "write(1, 0, 1)", "write(3, -1, 1)").refuses(3, "write(0, 2, 1)", "write(0, -1, 1)",
                "write(0, " + FAR + ", 1)", "write(0, " + LOW + ", 1)");
        });
        promise(7);
        edge("The number in a place of a TRAY;", () -> {
            run().does("tray(0, 0, 3)", "tray(1, 0, 3)", "write(0, 0, 1)", "write(0, 2, 2)", "write(1, 2, 3)")
                .gives("read(0, 0)", 1, "read(0, 1)", 0, "read(0, 2)", 2, "read(1, 2)", 3, "read(1, 0)", 0);
        });
        edge("STATUS tells NONE from -1", () -> {
            run().does("tray(0, 3, 1)", "write(0, 0, -1)").gives("read(0, 0)", -1).refuses(3, "read(0, 1)").gives("read(0, 0)", -1);
        });
        edge("(1, 2, 3).", () -> {
            run().gives("tray(0, 0, 2)", 1).refuses(1, "read(-1, 0)", "read(4, 0)", "read(4, 9)").refuses(2, "read(1, 0)",
                "read(3, -1)").refuses(3, "read(0, 2)", "read(0, -1)", "read(0, " + FAR + ")", "read(0, " + LOW + ")");
        });
    }

    private static Run poured() {
        return run().does("tray(0, 1, 4)", "tray(1, 1, 4)", "tray(2, 2, 4)", "write(0, 0, 1)", "write(0, 1, 2)", "write(0, 2, 3)",
            "write(0, 3, 4)");
    }

    private static void pour() {
        promise(8);
        edge("So many numbers of a TRAY, from a place on, come to another one's", () -> {
            poured().gives("pour(0, 1, 1, 0, 3)", 1, "read(1, 0)", 2, "read(1, 1)", 3, "read(1, 2)", 4, "read(1, 3)", 0,
                "read(0, 1)", 2, "pour(0, 0, 1, 0, 4)", 1, "read(1, 0)", 1, "read(1, 3)", 4, "pour(0, 3, 1, 0, 1)", 1,
                "read(1, 0)", 4, "read(1, 1)", 2);
        });
        edge("(or its own) place on, as they were", () -> {
            poured().gives("pour(0, 0, 0, 1, 3)", 1, "read(0, 0)", 1, "read(0, 1)", 1, "read(0, 2)", 2, "read(0, 3)", 3);
            poured().gives("pour(0, 1, 0, 0, 3)", 1, "read(0, 0)", 2, "read(0, 1)", 3, "read(0, 2)", 4, "read(0, 3)", 4);
            poured().gives("pour(0, 0, 0, 0, 4)", 1, "read(0, 0)", 1, "read(0, 3)", 4);
        });
        edge("(1: below 0, too;", () -> {
            poured().refuses(1, "pour(-1, 0, 0, 0, 1)", "pour(4, 0, 0, 0, 1)", "pour(0, 0, -1, 0, 1)", "pour(0, 0, 4, 0, 1)",
                "pour(0, -1, 1, 0, 1)", "pour(0, 0, 1, -1, 1)", "pour(0, 0, 1, 0, -1)", "pour(0, " + LOW + ", 1, 0, 1)",
                "pour(0, 0, 1, 0, " + LOW + ")");
        });
        edge("2;", () -> poured().refuses(2, "pour(3, 0, 0, 0, 1)", "pour(0, 0, 3, 0, 1)", "pour(3, 0, 3, 0, 0)"));
        edge("8;", () -> poured().refuses(8, "pour(0, 0, 2, 0, 1)", "pour(2, 0, 0, 0, 1)", "pour(2, 0, 0, 0, 0)"));
        edge("3: there are not so many from there on;", () -> {
            poured().refuses(3, "pour(0, 0, 1, 0, 5)", "pour(0, 1, 1, 0, 4)", "pour(0, 0, 1, 1, 4)", "pour(0, 4, 1, 0, 1)",
                "pour(0, 0, 1, 4, 1)", "pour(0, 1, 1, 0, " + FAR + ")", "pour(0, " + FAR + ", 1, 0, 1)",
                "pour(0, 0, 1, " + FAR + ", 1)", "pour(0, " + FAR + ", 1, " + FAR + ", " + FAR + ")").gives("read(1, 0)", 0);
        });
        edge("of none, the place just behind the last one will do, too;", () -> {
            poured().gives("pour(0, 4, 1, 4, 0)", 1, "pour(0, 0, 1, 0, 0)", 1, "pour(0, 4, 0, 0, 0)", 1)
                .refuses(3, "pour(0, 5, 1, 4, 0)", "pour(0, 4, 1, 5, 0)", "pour(0, " + FAR + ", 1, 0, 0)");
            run().gives("tray(0, 0, 0)", 1, "pour(0, 0, 0, 0, 0)", 1).refuses(3, "pour(0, 0, 0, 0, 1)", "pour(0, 1, 0, 0, 0)");
        });
        edge("asked in this order).", () -> {
            poured().refuses(1, "pour(3, 9, 0, -1, 9)", "pour(0, -1, 2, 0, 1)").refuses(2, "pour(3, 99, 0, 99, 99)",
                "pour(0, 99, 3, 99, 99)").refuses(8, "pour(0, 99, 2, 99, 99)");
        });
    }

    private static void texts() {
        promise(9);
        edge("Twenty bytes come behind those on the tape, the highest of each int first: how many it has;", () -> {
            // "odds", " 7;c", "ash ", "3;co", "rner", " sti", "ll 4", ";" and blanks.
            run().gives("feed(1868850291, 540490595, 1634953248, 859530095, 1919837554)", 20,
                "feed(544437353, 1819025460, 991961120, 538976288, 538976288)", 40, "bank(40)", 0, "told(4)", 7, "told(5)", 3,
                "told(0)", 1, "corner(0, 0)", 4);
            // The sign bit is a byte's like others: no TOKEN begins so.
            run().gives("feed(-1, 0, 0, 0, 0)", 20).refuses(9, "bank(1)").gives("fault(0)", 1, "fault(1)", 0);
        });
        edge("NONE if there would be more than 900.", () -> {
            Run x = run();
            for (int i = 1; i <= 45; i++) x.gives("feed(0, 0, 0, 0, 0)", 20 * i);
            x.gives("feed(0, 0, 0, 0, 0)", -1, "feed(1, 1, 1, 1, 1)", -1, "status()", 0).refuses(1, "bank(901)", "bank(920)");
        });
        promise(10);
        edge("The first n bytes of the tape (which is empty then) are the BANK: how many CLERKS", () -> {
            Run x = run();
            x.feed(BANK + "odds 3;");
            x.gives("bank(" + BANK.length() + ")", 3).refuses(6, "live(0)").refuses(1, "bank(1)").gives("feed(0, 0, 0, 0, 0)", 20, "bank(0)", 0,
                "told(0)", 0, "feed(0, 0, 0, 0, 0)", 20).refuses(9, "bank(20)").gives("feed(0, 0, 0, 0, 0)", 20);
        });
        edge("(1: n below 0, or more than the tape has, too;", () -> {
            run().refuses(1, "bank(-1)", "bank(1)", "bank(" + LOW + ")", "bank(" + FAR + ")").gives("bank(0)", 0,
                "feed(0, 0, 0, 0, 0)", 20).refuses(1, "bank(21)", "bank(-1)").gives("feed(0, 0, 0, 0, 0)", 40);
        });
        edge("9: the old one stays).", () -> {
            Run x = run(BANK, "run;").does("year(2)", "rule(4, 1)");
            x.feed("corner still 1;corner still 1;odds 99;");
            x.refuses(9, "bank(38)").gives("told(0)", 4, "told(4)", 1, "told(6)", 2, "clerk(0, 2)", 15, "live(0)", 1);
        });
        promise(11);
        edge("Likewise the DECADES: how many STEPS", () -> {
            Run x = run(BANK);
            x.feed("loop 2;when cash=3;run;end;end;any; zzz");
            x.gives("decades(35)", 4).refuses(1, "decades(1)").gives("feed(0, 0, 0, 0, 0)", 20).refuses(9, "decades(20)")
                .gives("feed(0, 0, 0, 0, 0)", 20);
        });
        edge("(1: above 300, too;", () -> {
            run(BANK).gives("decades(0)", 0);
            Run x = run(BANK).refuses(1, "decades(-1)", "decades(1)", "decades(" + LOW + ")", "decades(" + FAR + ")");
            x.feed(" ".repeat(320));
            x.refuses(1, "decades(301)", "decades(320)", "decades(321)").gives("feed(0, 0, 0, 0, 0)", 340, "decades(300)", 0);
        });
        edge("9).", () -> {
            Run x = run(BANK, "run;any;");
            x.feed("year 3;year 21;");
            x.refuses(9, "decades(15)").gives("live(0)", 2);
            x = run(BANK);
            x.feed("year 3;year 21;");
            x.refuses(9, "decades(15)").refuses(6, "live(0)");
            x.feed("loop 3;year 1;");
            x.refuses(9, "decades(14)").withDecades("loop 2;loop 2;loop 2;run;end;end;end;").gives("live(0)", 15);
        });
        promise(12);
        edge("Of the latest bank() or decades() with STATUS 0 or 9,", () -> {
            Run x = run();
            x.feed("odds 17;");
            x.refuses(9, "bank(8)").refuses(1, "bank(1)", "decades(-1)").gives("fault(0)", 4, "fault(1)", 5).withBank("")
                .gives("fault(0)", 0, "fault(1)", -1);
            x.feed("zzz");
            x.refuses(9, "decades(3)").gives("fault(0)", 2, "fault(1)", 0).withDecades("run;").gives("fault(0)", 0, "fault(1)", -1);
        });
        edge("what 0: the FAULT (0 without one),", () -> run("odds 1;").gives("fault(0)", 0));
        edge("1: its place (NONE without).", () -> {
            run("odds 1;").gives("fault(1)", -1);
            faulty("odds 1", 2, 6);
        });
        edge("NONE for others, and ahead of any.", () -> {
            run().gives("fault(0)", -1, "fault(1)", -1).refuses(1, "bank(5)").gives("fault(0)", -1, "fault(1)", -1);
            run("").gives("fault(2)", -1, "fault(-1)", -1, "fault(" + FAR + ")", -1, "fault(" + LOW + ")", -1, "fault(0)", 0);
        });
    }

    private static void whatIsTold() {
        promise(13);
        edge("How many CORNERS (what 0), RANKS (1), CLERKS (2), CLIENTS (3);", () -> {
            run(BANK).gives("told(0)", 4, "told(1)", 3, "told(2)", 3, "told(3)", 3, "hire(3)", 3, "told(2)", 4, "run()", 15,
                "told(3)", 1, "open(1, 1)", 1, "told(3)", 2);
        });
        edge("ODDS (4), CASH (5); the YEAR (6);", () -> run(BANK).gives("told(4)", 8, "told(5)", 20, "told(6)", 0).does("year(7)")
            .gives("told(6)", 7));
        edge("how often CLERKS were UNPAID (7), what they were PAID (8);", () -> {
            // ann 2, 2, 2, ..; bob 2; cat 1: 5, 5, 5 and 5, then nothing is left.
            run(BANK).gives("year(5)", 20, "told(7)", 3, "told(8)", 20, "clerk(0, 5)", 8, "clerk(1, 5)", 8, "clerk(2, 5)", 4,
                "clerk(0, 6)", 1, "clerk(1, 6)", 1, "clerk(2, 6)", 1);
        });
        edge("GREY of all (9),", () -> run(BANK).gives("told(9)", 133).does("fan(0, 9)").gives("told(9)", 133));
        edge("SUMS of all CLIENTS (10)", () -> run(BANK).gives("told(10)", 22, "open(99, 999)", 3,
            "told(10)", 121, "run()", 15, "told(10)", 106));
        edge("(1).", () -> refuses1(BANK, "told($)", -1, 11, FAR, LOW));
        promise(14);
        edge("Of a CORNER, what 0: STILL,", () -> run(BANK).gives("corner(0, 0)", 3, "corner(1, 0)", 0, "corner(3, 0)", 9));
        edge("1: who sits there (6: nobody)", () -> {
            run(BANK).gives("corner(0, 1)", 0, "corner(1, 1)", 1, "corner(2, 1)", 2).refuses(6, "corner(3, 1)")
                .gives("hire(3)", 3, "corner(3, 1)", 3, "swap(0, 3)", 4, "corner(3, 1)", 0);
        });
        edge("(1; 6).", () -> {
            refuses1(BANK, "corner($, 0)", -1, 4, FAR, LOW);
            refuses1(BANK, "corner($, 1)", -1, 4);
            refuses1(BANK, "corner(0, $)", -1, 2, FAR, LOW);
            refuses1(BANK, "corner(3, $)", -1, 2);
        });
        promise(15);
        edge("Of a RANK, what 0: AT how much, 1: PAY,", () -> run(BANK).gives("rank(0, 0)", 10, "rank(2, 0)", 60, "rank(0, 1)", 2,
            "rank(2, 1)", 1));
        edge("2: the set of CLERKS who are of it (1 for CLERK 0 ..)", () -> {
            run(BANK).gives("rank(0, 2)", 3, "rank(1, 2)", 0, "rank(2, 2)", 4).does("fan(1, 1)").gives("rank(0, 2)", 1,
                "rank(1, 2)", 2).does("dust(0)", "dust(2)").gives("rank(0, 2)", 0, "rank(2, 2)", 0);
            run("rank at 0 pay 1;rank at 1 pay 1;" + ONE).gives("rank(0, 2)", 1, "rank(1, 2)", 0);
        });
        edge("(1).", () -> {
            refuses1(BANK, "rank($, 0)", -1, 3, FAR, LOW);
            refuses1(BANK, "rank(0, $)", -1, 3, FAR, LOW);
        });
        promise(16);
        edge("Of a CLERK, what 0: his CORNER, 1: YEARS SERVED, 2: GREY, 3: SHAM, 4: LOOKS,", () -> {
            run(BANK).gives("clerk(0, 0)", 0, "clerk(0, 1)", 3, "clerk(0, 2)", 9, "clerk(0, 3)", 4, "clerk(0, 4)", 13,
                "clerk(2, 0)", 2, "clerk(2, 4)", 99, "clerk(1, 1)", 999);
        });
        edge("5: what he was PAID, 6: how often he was UNPAID", () -> {
            run(BANK).does("rule(5, 3)", "year(2)").gives("clerk(0, 5)", 2, "clerk(0, 6)", 1, "clerk(1, 5)", 0, "clerk(1, 6)", 2,
                "clerk(2, 5)", 1, "clerk(2, 6)", 1);
        });
        edge("(1).", () -> {
            refuses1(BANK, "clerk($, 0)", -1, 3, FAR, LOW);
            refuses1(BANK, "clerk(0, $)", -1, 7, FAR, LOW);
        });
        promise(17);
        edge("RANK of a CLERK", () -> run(BANK).gives("rankOf(0)", 0, "rankOf(1)", 0, "rankOf(2)", 2));
        edge("(1; 6: none).", () -> {
            refuses1(BANK, "rankOf($)", -1, 3, FAR, LOW);
            run(BANK).does("dust(0)").refuses(6, "rankOf(0)").does("fan(0, 9)").refuses(6, "rankOf(0)").does("fan(0, 1)")
                .gives("rankOf(0)", 0);
        });
        promise(18);
        edge("Of a CLIENT, what 0: the SUM, 1: NERVE", () -> run(BANK).gives("client(0, 0)", 10, "client(0, 1)", 0,
            "client(2, 0)", 7, "client(2, 1)", 16));
        edge("(1).", () -> {
            refuses1(BANK, "client($, 0)", -1, 3, FAR, LOW);
            refuses1(BANK, "client(0, $)", -1, 2, FAR, LOW);
        });
    }

    private static void whatIsDone() {
        promise(19);
        edge("So many YEARS (1 to 99): what was PAID in them", () -> {
            run(BANK).gives("year(1)", 5, "year(2)", 10, "year(99)", 5, "told(6)", 102);
            run("cash 9999;rank at 0 pay 50;" + ONE).gives("year(99)", 4950);
        });
        edge("(1;", () -> refuses1(BANK, "year($)", 0, -1, 100, FAR, LOW));
        edge("4: above 9,999).", () -> {
            run(ONE).years(9900).refuses(1, "year(100)").gives("year(98)", 0, "told(6)", 9998).refuses(4, "year(2)", "year(99)")
                .gives("year(1)", 0).refuses(4, "year(1)").refuses(1, "year(0)").gives("told(6)", 9999);
        });
        promise(20);
        edge("MOVE: GREY that is left", () -> run(BANK).gives("move(0, 3)", 4, "clerk(0, 2)", 4));
        edge("(1;", () -> {
            refuses1(BANK, "move($, 3)", -1, 3, FAR, LOW);
            refuses1(BANK, "move(0, $)", -1, 4, FAR, LOW);
        });
        edge("7: one sits there, he himself, too).", () -> run(BANK).refuses(7, "move(0, 0)", "move(0, 1)", "move(0, 2)")
            .gives("clerk(0, 2)", 9, "clerk(0, 3)", 4, "move(0, 3)", 4, "move(1, 0)", 14).refuses(7, "move(0, 3)"));
        promise(21);
        edge("SWAP: GREY of both that is left, together", () -> run(BANK).gives("swap(0, 1)", 4 + 14, "swap(2, 0)", 47 + 2));
        edge("(1: one and himself, too).", () -> {
            refuses1(BANK, "swap($, 0)", -1, 3, 0, FAR, LOW);
            refuses1(BANK, "swap(2, $)", -1, 3, 2, FAR, LOW);
        });
        promise(22);
        edge("FAN by so much (1 to 50): SHAM then", () -> run(BANK).gives("fan(0, 1)", 5, "fan(0, 50)", 55, "fan(0, 50)", 99));
        edge("(1;", () -> {
            refuses1(BANK, "fan($, 1)", -1, 3, FAR, LOW);
            refuses1(BANK, "fan(0, $)", 0, -1, 51, FAR, LOW);
        });
        edge("7: it is 99).", () -> run(BANK).refuses(7, "fan(2, 1)").refuses(1, "fan(2, 51)").gives("fan(0, 50)", 54, "fan(0, 44)",
            98, "fan(0, 50)", 99).refuses(7, "fan(0, 50)"));
        promise(23);
        edge("DUST: how much GREY and SHAM were gone, together", () -> run(BANK).gives("dust(0)", 13, "dust(1)", 29, "dust(2)", 194));
        edge("(1; 7: he has neither).", () -> {
            refuses1(BANK, "dust($)", -1, 3, FAR, LOW);
            run(ONE).refuses(7, "dust(0)").does("fan(0, 1)").gives("dust(0)", 1).refuses(7, "dust(0)").does("year(1)")
                .gives("dust(0)", 1).refuses(7, "dust(0)");
        });
        promise(24);
        edge("LOOK: how much SHAM was gone", () -> run(BANK).gives("look(0)", 4, "look(2)", 99, "clerk(2, 2)", 95));
        edge("(1; 7: he has none).", () -> {
            refuses1(BANK, "look($)", -1, 3, FAR, LOW);
            run(BANK).refuses(7, "look(1)").gives("look(0)", 4).refuses(7, "look(0)").does("fan(0, 1)").gives("look(0)", 1);
        });
        promise(25);
        edge("RUN: how much was paid", () -> {
            run(BANK).gives("run()", 15, "told(5)", 5);
            run("cash 0;client sum 1 nerve 0;").gives("run()", 0);
        });
        edge("(7: nobody COMES).", () -> {
            run().refuses(7, "run()");
            run("client sum 9 nerve 1;").refuses(7, "run()").does("open(1, 0)").gives("run()", 10).refuses(7, "run()");
        });
        promise(26);
        edge("One CLERK more, SERVED, GREY, SHAM 0: his number", () -> {
            run(BANK).does("mark()").gives("hire(3)", 3, "clerk(3, 0)", 3, "clerk(3, 1)", 0, "clerk(3, 2)", 0, "clerk(3, 3)", 0,
                "clerk(3, 5)", 0, "clerk(3, 6)", 0).does("rule(5, 0)", "fan(3, 9)", "year(9)", "undo()").gives("hire(3)", 3,
                "clerk(3, 1)", 0, "clerk(3, 2)", 0, "clerk(3, 3)", 0, "clerk(3, 6)", 0);
        });
        edge("(1; 4: a seventh; 7: one sits there).", () -> {
            refuses1(BANK, "hire($)", -1, 4, FAR, LOW);
            run(BANK).refuses(7, "hire(0)", "hire(2)").gives("hire(3)", 3).refuses(7, "hire(3)");
            run("corner still 0;".repeat(7)).gives("hire(6)", 0, "hire(1)", 1, "hire(2)", 2, "hire(3)", 3, "hire(4)", 4, "hire(5)", 5)
                .refuses(4, "hire(0)", "hire(6)").refuses(1, "hire(7)").gives("told(2)", 6);
        });
        promise(27);
        edge("One CLIENT more (SUM 1 to 99, NERVE 0 to 999):", () -> {
            run().gives("open(1, 0)", 0, "open(99, 999)", 1, "client(0, 0)", 1, "client(0, 1)", 0, "client(1, 0)", 99,
                "client(1, 1)", 999);
        });
        edge("CASH is more by the SUM (9,999 at most): his number", () -> {
            run("cash 9899;").gives("open(99, 0)", 0, "told(5)", 9998, "open(1, 0)", 1, "told(5)", 9999, "open(99, 0)", 2,
                "told(5)", 9999);
        });
        edge("(1; 4: a ninth).", () -> {
            refuses1("", "open($, 0)", 0, -1, 100, FAR, LOW);
            refuses1("", "open(1, $)", -1, 1000, FAR, LOW);
            run("cash 1;" + "client sum 1 nerve 0;".repeat(7)).gives("open(2, 2)", 7).refuses(4, "open(2, 2)")
                .refuses(1, "open(0, 2)").gives("told(5)", 3, "told(3)", 8);
        });
        promise(28);
        edge("STILL of a CORNER from now on (0 to 9): what it was", () -> {
            run(BANK).gives("calm(0, 9)", 3, "calm(0, 0)", 9, "corner(0, 0)", 0, "calm(0, 2)", 0).does("year(1)")
                .gives("clerk(0, 2)", 11, "calm(3, 1)", 9);
        });
        edge("(1).", () -> {
            refuses1(BANK, "calm($, 1)", -1, 4, FAR, LOW);
            refuses1(BANK, "calm(0, $)", -1, 10, FAR, LOW);
        });
        promise(29);
        edge("ODDS (what 4: 0 to 16), CASH (5: 0 to 9,999) from now on", () -> {
            run(BANK).gives("rule(4, 0)", 1, "told(4)", 0, "rule(4, 16)", 1, "told(4)", 16, "rule(5, 0)", 1, "told(5)", 0,
                "rule(5, 9999)", 1, "told(5)", 9999, "told(4)", 16);
        });
        edge("(1).", () -> {
            refuses1(BANK, "rule(4, $)", -1, 17, FAR, LOW);
            refuses1(BANK, "rule(5, $)", -1, 10000, FAR, LOW);
            refuses1(BANK, "rule($, 1)", -1, 0, 3, 6, FAR, LOW);
        });
    }

    private static void yearsAhead() {
        promise(30);
        edge("GREY of a CLERK in so many YEARS (0 to 40)", () -> {
            run(BANK).gives("greyIn(0, 0)", 9, "greyIn(0, 1)", 12, "greyIn(0, 30)", 99, "greyIn(0, 29)", 96, "greyIn(0, 40)", 99,
                "greyIn(1, 40)", 29);
        });
        edge("(1).", () -> {
            refuses1(BANK, "greyIn($, 1)", -1, 3, FAR, LOW);
            refuses1(BANK, "greyIn(0, $)", -1, 41, FAR, LOW);
        });
        promise(31);
        edge("RANK of a CLERK in so many YEARS (0 to 40)", () -> {
            run(BANK).gives("rankIn(0, 0)", 0, "rankIn(0, 5)", 0, "rankIn(0, 6)", 1, "rankIn(0, 40)", 2, "rankIn(2, 0)", 2);
        });
        edge("(1; 6: none).", () -> {
            refuses1(BANK, "rankIn($, 1)", -1, 3, FAR, LOW);
            refuses1(BANK, "rankIn(0, $)", -1, 41, FAR, LOW);
            run("rank at 9 pay 0;corner still 2;clerk ann in 0 sham 1;").refuses(6, "rankIn(0, 0)", "rankIn(0, 3)").gives("rankIn(0, 4)", 0);
        });
        promise(32);
        edge("In how many YEARS (1 to 99) one is UNPAID first, as only YEARS go by: 1 for the first that goes by", () -> {
            run("cash 0;rank at 0 pay 1;" + ONE).gives("unpaidIn()", 1).does("year(5)").gives("unpaidIn()", 1);
            run("cash 98;rank at 0 pay 1;" + ONE).gives("unpaidIn()", 99);
            run("cash 5;rank at 3 pay 2;" + ONE).gives("unpaidIn()", 6);
            run("cash 0;rank at 0 pay 1;" + ONE).does("year(5)", "rule(5, 3)").gives("told(7)", 5, "unpaidIn()", 4);
        });
        edge("(6: in none).", () -> {
            run("cash 99;rank at 0 pay 1;" + ONE).refuses(6, "unpaidIn()").does("year(1)").gives("unpaidIn()", 99);
            run("cash 0;rank at 0 pay 0;" + ONE).refuses(6, "unpaidIn()");
            run("cash 0;").refuses(6, "unpaidIn()");
        });
        promise(33);
        edge("CASH in so many YEARS (0 to 40)", () -> run(BANK).gives("cashIn(0)", 20, "cashIn(1)", 15,
            "cashIn(4)", 0, "cashIn(40)", 0).does("rule(5, 9)").gives("cashIn(0)", 9, "cashIn(1)", 4, "told(5)", 9));
        edge("(1).", () -> refuses1(BANK, "cashIn($)", -1, 41, FAR, LOW));
    }

    private static void whoSitsWhere() {
        promise(34);
        edge("SEATING: GREY of all", () -> {
            run("").gives("seating(0)", 0, "seating(40)", 0);
            run(BANK).gives("seating(0)", 133, "seating(40)", 297);
        });
        edge("(1).", () -> refuses1(BANK, "seating($)", -1, 41, FAR, LOW));
        promise(35);
        edge("SEATING: the CORNER of a CLERK", () -> {
            run(BANK).gives("seatOf(0, 0)", 0, "seatOf(0, 1)", 1, "seatOf(0, 2)", 2, "seatOf(40, 0)", 0, "seatOf(40, 1)", 2,
                "seatOf(40, 2)", 3);
        });
        edge("(1).", () -> {
            refuses1(BANK, "seatOf($, 0)", -1, 41, FAR, LOW);
            refuses1(BANK, "seatOf(0, $)", -1, 3, FAR, LOW);
        });
        promise(36);
        edge("How many SWAPS of two CLERKS are LIKED", () -> {
            // a 99 already, b and c in still 0: both would have 9 for each year.
            run("corner still 9;corner still 0;corner still 0;clerk a in 0 grey 99;clerk b in 1;clerk c in 2;")
                .gives("liked(0)", 0, "liked(5)", 0, "liked(6)", 2, "liked(40)", 2);
            run("").gives("liked(40)", 0);
            run(ONE).gives("liked(40)", 0);
        });
        edge("(1).", () -> refuses1(BANK, "liked($)", -1, 41, FAR, LOW));
        promise(37);
        edge("1 if the SWAP of two CLERKS is LIKED, else 0", () -> {
            run("corner still 9;corner still 0;corner still 0;clerk a in 0 grey 99;clerk b in 1;clerk c in 2;")
                .gives("isLiked(6, 0, 1)", 1, "isLiked(6, 1, 0)", 1, "isLiked(5, 0, 1)", 0, "isLiked(6, 1, 2)", 0,
                "isLiked(40, 2, 0)", 1, "isLiked(0, 0, 2)", 0);
        });
        edge("(1).", () -> {
            refuses1(BANK, "isLiked($, 0, 1)", -1, 41, FAR, LOW);
            refuses1(BANK, "isLiked(0, $, 1)", -1, 3, 1, FAR, LOW);
            refuses1(BANK, "isLiked(0, 1, $)", -1, 3, 1, FAR, LOW);
        });
        promise(38);
        edge("SOON: how many YEARS", () -> run(BANK).gives("soon(0, 0)", 0, "soon(0, 1)", 3, "soon(0, 2)", 7));
        edge("(1; 6: in none).", () -> {
            refuses1(BANK, "soon($, 0)", -1, 3, FAR, LOW);
            refuses1(BANK, "soon(0, $)", -1, 3, FAR, LOW);
            run("rank at 99 pay 0;corner still 0;clerk a in 0 grey 98;").refuses(6, "soon(0, 0)").does("calm(0, 1)").gives("soon(0, 0)", 1)
                .does("dust(0)").gives("soon(0, 0)", 99);
        });
        promise(39);
        edge("SOON: the CORNER", () -> run(BANK).gives("soonAt(0, 0)", 0, "soonAt(0, 1)", 3, "soonAt(0, 2)", 3, "soonAt(2, 2)", 2));
        edge("(1; 6).", () -> {
            refuses1(BANK, "soonAt($, 0)", -1, 3, FAR, LOW);
            refuses1(BANK, "soonAt(0, $)", -1, 3, FAR, LOW);
            run("rank at 99 pay 0;corner still 0;clerk a in 0 grey 98;").refuses(6, "soonAt(0, 0)").does("calm(0, 1)").gives("soonAt(0, 0)", 0);
        });
    }

    private static void fansAndStills() {
        promise(40);
        edge("WORTH of a FAN by much (0 to 99) for so many YEARS (0 to 40)", () -> {
            run(BANK).gives("worth(0, 0, 40)", 0, "worth(0, 99, 0)", 0, "worth(0, 17, 3)", 9, "worth(0, 99, 1)", -1,
                "worth(1, 31, 40)", -40);
        });
        edge("(1).", () -> {
            refuses1(BANK, "worth($, 1, 1)", -1, 3, FAR, LOW);
            refuses1(BANK, "worth(0, $, 1)", -1, 100, FAR, LOW);
            refuses1(BANK, "worth(0, 1, $)", -1, 41, FAR, LOW);
        });
        promise(41);
        edge("LEAST FAN", () -> run(BANK).gives("leastFan(0, 0)", 0, "leastFan(0, 1)", 17, "leastFan(0, 2)", 47, "leastFan(2, 0)", 0,
            "leastFan(1, 1)", 1));
        edge("(1).", () -> {
            refuses1(BANK, "leastFan($, 0)", -1, 3, FAR, LOW);
            refuses1(BANK, "leastFan(0, $)", -1, 3, FAR, LOW);
        });
        promise(42);
        edge("FITS: how many STILLS", () -> run().gives("tray(0, 0, 2)", 1, "fits(0, 0)", 10, "fits(0, 1)", 10).does("write(0, 1, 1)")
            .gives("fits(0, 1)", 0));
        edge("(1; 2; 3; 5).", () -> {
            refuses1("", "fits($, 0)", -1, 4, FAR, LOW);
            refuses1("", "fits(0, $)", -1, 21, FAR, LOW);
            run().refuses(2, "fits(0, 0)").gives("tray(0, 0, 1)", 1, "fits(0, 0)", 10).refuses(3, "fits(0, 1)", "fits(0, 20)")
                .gives("tray(0, 0, 3)", 1, "write(0, 0, 100)", 1).refuses(5, "fits(0, 1)").refuses(3, "fits(0, 2)");
        });
        promise(43);
        edge("The k-th of these, from 0 on", () -> {
            run().does("tray(0, 0, 2)", "write(0, 0, 14)", "write(0, 1, 99)").gives("fits(0, 1)", 2, "fitsAt(0, 1, 0)", 8,
                "fitsAt(0, 1, 1)", 9, "fitsAt(0, 0, 9)", 9);
        });
        edge("(1: k below 0, too; 2; 3; 5; 6: no such).", () -> {
            refuses1("", "fitsAt($, 0, 0)", -1, 4, FAR, LOW);
            refuses1("", "fitsAt(0, $, 0)", -1, 21, FAR, LOW);
            refuses1("", "fitsAt(0, 0, $)", -1, LOW);
            run().refuses(2, "fitsAt(0, 0, 0)").gives("tray(0, 0, 3)", 1).refuses(1, "fitsAt(0, 0, -1)").refuses(3, "fitsAt(0, 2, 0)",
                "fitsAt(0, 2, 99)").refuses(6, "fitsAt(0, 0, 10)", "fitsAt(0, 1, " + FAR + ")").gives("write(0, 1, 100)", 1)
                .refuses(5, "fitsAt(0, 1, 0)", "fitsAt(0, 1, 99)").gives("write(0, 1, 1)", 1).refuses(6, "fitsAt(0, 1, 0)");
        });
        promise(44);
        edge("ASK", () -> run().gives("tray(0, 0, 2)", 1, "ask(0, 0)", 1, "ask(0, 1)", 1));
        edge("(1; 2; 3; 5; 6: fewer than two).", () -> {
            refuses1("", "ask($, 0)", -1, 4, FAR, LOW);
            refuses1("", "ask(0, $)", -1, 21, FAR, LOW);
            run().refuses(2, "ask(0, 0)").gives("tray(0, 0, 3)", 1).refuses(3, "ask(0, 2)").gives("write(0, 1, 1)", 1)
                .refuses(6, "ask(0, 1)").gives("write(0, 0, 1)", 1, "fits(0, 1)", 1).refuses(6, "ask(0, 1)")
                .gives("write(0, 0, 100)", 1).refuses(5, "ask(0, 1)").gives("write(0, 0, 14)", 1, "write(0, 1, 99)", 1, "ask(0, 1)", 1);
        });
    }

    private static void runsAndGames() {
        promise(45);
        edge("All who COME: a set (1 for CLIENT 0 ..).", () -> {
            run("").gives("comes()", 0);
            run(BANK).gives("comes()", 3).does("open(1, 15)").gives("comes()", 15);
            run("client sum 1 nerve 0;".repeat(8)).gives("comes()", 255);
            run("client sum 1 nerve 1;".repeat(7) + "client sum 1 nerve 0;").gives("comes()", 255);
        });
        promise(46);
        edge("SUMS of all who COME, together.", () -> {
            run("").gives("comesFor()", 0);
            run(BANK).gives("comesFor()", 15);
            run("client sum 99 nerve 0;".repeat(8)).gives("comesFor()", 792);
        });
        promise(47);
        edge("CALM: how many.", () -> {
            run("").gives("calms()", 0);
            run("cash 15;" + BANK.substring(15)).gives("calms()", 0).does("rule(5, 14)").gives("calms()", 1);
        });
        promise(48);
        edge("CALM: the set.", () -> {
            run("").gives("calmSet()", 0);
            run(BANK).does("rule(5, 15)").gives("calmSet()", 0).does("rule(5, 14)").gives("calmSet()", 1).does("rule(5, 10)")
                .gives("calmSet()", 1).does("rule(5, 0)").gives("calmSet()", 1);
        });
        promise(49);
        String two = "rank at 20 pay 0;corner still 0;corner still 0;clerk a in 0 grey 20;clerk b in 1 grey 21;";
        edge("GAME", () -> {
            run(BANK).gives("game(0, 0)", 3, "game(1, 0)", 1, "game(2, 0)", 1, "game(0, 4)", 3);
            run(two).gives("game(0, 1)", 2, "game(0, 2)", 1, "game(0, 4)", 1);
        });
        edge("(1).", () -> {
            refuses1(BANK, "game($, 1)", -1, 3, FAR, LOW);
            refuses1(BANK, "game(0, $)", -1, 5, FAR, LOW);
        });
        promise(50);
        edge("WHO", () -> {
            run("rank at 3 pay 0;corner still 2;corner still 2;clerk a in 0;clerk b in 1 grey 1;").gives("who(0, 1)", 1, "who(0, 4)", 1);
            run(two).gives("who(0, 2)", 0);
            run(two.replace("grey 20", "grey 40")).gives("who(0, 1)", 0, "who(0, 2)", 1, "game(0, 2)", 2);
        });
        edge("(1: n 0, too;", () -> {
            refuses1(BANK, "who($, 1)", -1, 3, FAR, LOW);
            refuses1(BANK, "who(0, $)", 0, -1, 5, FAR, LOW);
        });
        edge("6: nothing).", () -> run("rank at 0 pay 0;corner still 1;").refuses(6, "who(0, 1)", "who(0, 4)").gives("hire(0)", 0,
            "who(0, 1)", 0));
        promise(51);
        edge("The FRACTION is SHAMS of k (0 to 6)", () -> {
            run("").givesFraction("shams(0)", 1, 1).givesFraction("shams(6)", 0, 1);
            run("odds 2;" + ONE).givesFraction("shams(1)", 1, 8).givesFraction("shams(0)", 1, 1).givesFraction("shams(6)", 0, 1);
        });
        edge("(1).", () -> refuses1(BANK, "shams($)", -1, 7, FAR, LOW));
        promise(52);
        edge("The FRACTION is SHARE of a CLERK", () -> run(BANK).givesFraction("share(0)", 9, 133).givesFraction("share(2)", 5, 7));
        edge("(1; 6: nobody has GREY).", () -> {
            refuses1(BANK, "share($)", -1, 3, FAR, LOW);
            run(ONE).does("fan(0, 9)").refuses(6, "share(0)").does("year(1)").givesFraction("share(0)", 1, 1);
        });
        promise(53);
        edge("GREY of all CLERKS comes to a TRAY, one by one: how many CLERKS", () -> {
            run(BANK).does("tray(2, 0, 4)", "write(2, 3, 7)").gives("copyGrey(2)", 3, "read(2, 0)", 9, "read(2, 1)", 29, "read(2, 2)",
                95, "read(2, 3)", 7);
            run("").does("tray(0, 0, 0)").gives("copyGrey(0)", 0);
        });
        edge("(1; 2; 3).", () -> {
            refuses1(BANK, "copyGrey($)", -1, 4, FAR, LOW);
            run(BANK).refuses(2, "copyGrey(0)").gives("tray(0, 0, 2)", 1).refuses(3, "copyGrey(0)").gives("read(0, 0)", 0,
                "tray(0, 0, 3)", 1, "copyGrey(0)", 3, "read(0, 2)", 95);
        });
    }

    private static void livesAndMarks() {
        promise(54);
        edge("LIVED: how many STEPS were come to (MISSED ones, too)", () -> {
            run(ONE, "look ann;look ann;year 1;stop;year 1;").gives("live(0)", 4, "lived(0)", 2);
            run(ONE, "when cash=0;year 1;end;").gives("live(0)", 1);
        });
        edge("(1; 6: no DECADES).", () -> {
            for (int seed : new int[] {-1, 10000, FAR, LOW}) run(ONE, "run;").refuses(1, "live(" + seed + ")");
            run(ONE).refuses(1, "live(10000)").refuses(6, "live(0)", "live(9999)");
        });
        promise(55);
        edge("Of live() latest with STATUS 0 (whatever came behind it),", () -> {
            run(ONE, "year 3;").gives("live(0)", 1).does("mark()", "live(-1)", "year(5)", "mean(0, 3)", "undo()").withDecades("run;run;")
                .does("mean(0, 3)").gives("lived(1)", 3, "lived(0)", 0).withBank("").refuses(6, "live(0)").gives("lived(1)", 3, "lived(0)", 0).withDecades("run;").gives("live(0)", 1,
                "lived(1)", 0, "lived(0)", 1);
        });
        edge("what 0: how many were MISSED, 1: YEARS,", () -> {
            run(ONE, "year 3;run;look ann;year 2;").gives("live(0)", 4, "lived(0)", 2, "lived(1)", 5, "live(0)", 4, "lived(1)", 5);
        });
        edge("2: what was PAID to CLERKS, 3: what CLIENTS were paid,", () -> {
            run("cash 50;rank at 0 pay 3;client sum 9 nerve 0;client sum 8 nerve 9;" + ONE, "year 2;run;year 1;").gives("year(1)", 3,
                "live(0)", 3, "lived(2)", 9, "lived(3)", 17, "told(8)", 12, "live(0)", 3, "lived(2)", 9, "lived(3)", 0);
        });
        edge("4: 1 if a STEP was left to be done (by the 300 alone, not by stop), else 0", () -> {
            String full = "loop 99;run;run;end;loop 98;run;end;";
            run(ONE, full + "run;").gives("live(0)", 299, "lived(4)", 0);
            run(ONE, full + "run;run;").gives("live(0)", 300, "lived(4)", 0);
            run(ONE, full + "run;run;run;").gives("live(0)", 300, "lived(4)", 1);
            run(ONE, full + "run;stop;run;").gives("live(0)", 300, "lived(4)", 0);
            // A stop is a STEP, too: it is left by the 300.
            run(ONE, full + "run;run;stop;").gives("live(0)", 300, "lived(4)", 1);
            run(ONE, full + "run;when cash=0;run;end;").gives("live(0)", 300, "lived(4)", 0);
            run(ONE, full + "run;when cash=100;run;end;").gives("live(0)", 300, "lived(4)", 1);
            run(ONE, full + "run;loop 9;end;").gives("live(0)", 300, "lived(4)", 0);
            run(ONE, "run;stop;run;").gives("live(0)", 2, "lived(4)", 0);
            run(ONE, "loop 3;loop 2;year 1;end;stop;end;").gives("live(0)", 5, "lived(4)", 0, "lived(1)", 2, "live(0)", 5,
                "lived(1)", 2);
        });
        edge("(1; 6: there was none).", () -> {
            for (int what : new int[] {-1, 5, FAR, LOW}) run(ONE, "run;").does("live(0)").refuses(1, "lived(" + what + ")");
            run(ONE, "run;").refuses(6, "lived(0)", "lived(4)").refuses(1, "lived(5)").does("live(-1)", "mean(0, 1)")
                .refuses(6, "lived(0)");
        });
        promise(56);
        edge("The FRACTION is the mean of GREY of all behind the DECADES, by so many seeds (1 to 20) from one on", () -> {
            Run x = run("odds 8;corner still 1;clerk a in 0 grey 50;", "any;");
            for (int many = 1; many <= 20; many++) {
                int all = 0;
                for (int seed = 30; seed < 30 + many; seed++) {
                    int luck = ((seed * 3253 + 11471) % 65536 * 3253 + 11471) % 65536 / 8 % 16;
                    all += luck < 8 ? 0 : 51;
                }
                int divisor = many;
                while (all % divisor != 0 || many % divisor != 0) divisor--;
                x.givesFraction("mean(30, " + many + ")", all / divisor, many / divisor);
            }
        });
        edge("(1: the last above 9,999, too;", () -> {
            run(ONE, "run;").refuses(1, "mean(-1, 1)", "mean(10000, 1)", "mean(0, 0)", "mean(0, -1)", "mean(0, 21)", "mean(9999, 2)",
                "mean(9981, 20)", "mean(" + FAR + ", 1)", "mean(" + FAR + ", 20)", "mean(" + LOW + ", 1)", "mean(0, " + FAR + ")",
                "mean(0, " + LOW + ")").gives("mean(9999, 1)", 1, "mean(9980, 20)", 1);
        });
        edge("6: no DECADES);", () -> run(ONE).refuses(6, "mean(0, 1)").refuses(1, "mean(0, 0)"));
        edge("all stays as it is.", () -> {
            Run x = run(BANK, "year 2;run;move ann 3;fan bob 9;").does("live(0)", "tray(0, 0, 5)");
            x.does("shams(0)");
            String before = x.all();
            x.givesFraction("mean(0, 20)", 153, 1).does("shams(0)");
            if (!x.all().equals(before)) wrong("something changed");
        });
        promise(57);
        edge("A MARK more: how many there are", () -> run().gives("mark()", 1, "mark()", 2, "mark()", 3));
        edge("(4).", () -> run("cash 5;").does("mark()", "mark()", "rule(5, 6)", "mark()", "rule(5, 7)").refuses(4, "mark()")
            .gives("undo()", 2, "told(5)", 6, "mark()", 3).refuses(4, "mark()"));
        promise(58);
        edge("All is taken back to the latest MARK: how many there are left", () -> {
            run(BANK).does("mark()", "year(1)", "mark()", "year(1)").gives("undo()", 1, "told(6)", 1, "undo()", 0, "told(6)", 0);
            run(BANK, "run;any;").does("mark()").withDecades("run;").gives("undo()", 0, "live(0)", 2);
            run(BANK).does("mark()").withDecades("run;").gives("undo()", 0).refuses(6, "live(0)");
        });
        edge("(6).", () -> run().refuses(6, "undo()").does("mark()").gives("undo()", 0).refuses(6, "undo()"));
    }

    public static void main(String[] args) {
        calls();
        newObject();
        statusAndFraction();
        trays();
        pour();
        texts();
        whatIsTold();
        whatIsDone();
        yearsAhead();
        whoSitsWhere();
        fansAndStills();
        runsAndGames();
        livesAndMarks();
        tellAndExit();
    }
}
