/** The edges of the Terms of how DECADES are lived, of MARKS and of FRACTIONS. */
public final class EdgeLivesTest extends Edges {
    private static final String CORNER = "corner still 1;";
    private static final String SEVEN = CORNER.repeat(7);
    private static final String FIVE_RANKS = "rank at 1 pay 1;rank at 2 pay 1;rank at 3 pay 1;rank at 4 pay 1;rank at 5 pay 1;";
    /** Three corners, ann in the first, bob in the second, nobody in the third. */
    private static final String PAIR = CORNER.repeat(3) + "clerk ann in 0;clerk bob in 1;";

    private static int drawn(int s) {
        return (s * 3253 + 11471) % 65536;
    }

    private static void numbersOfSteps() {
        edge("year: so many (1 to 20);", () -> {
            run(PAIR, "year 1;").does("live(0)").gives("told(6)", 1);
            run(PAIR, "year 20;").does("live(0)").gives("told(6)", 20);
            faultyDecades(PAIR, "year 0;", 4, 5);
            faultyDecades(PAIR, "year 21;", 4, 5);
        });
        edge("move: to a CORNER;", () -> {
            run(SEVEN + "clerk ann in 3;", "move ann 0;").does("live(0)").gives("clerk(0, 0)", 0, "lived(0)", 0);
            run(SEVEN + "clerk ann in 3;", "move ann 6;").does("live(0)").gives("clerk(0, 0)", 6, "lived(0)", 0);
        });
        edge("fan: by so much (1 to 50);", () -> {
            run(PAIR, "fan ann 1;").does("live(0)").gives("clerk(0, 3)", 1);
            run(PAIR, "fan bob 50;").does("live(0)").gives("clerk(1, 3)", 50, "clerk(0, 3)", 0);
            faultyDecades(PAIR, "fan ann 0;", 4, 8);
            faultyDecades(PAIR, "fan ann 51;", 4, 8);
        });
        edge("rank: its number and 1 more against 0 to 5 (0: he has none);", () -> {
            String of = "corner still 0;corner still 0;corner still 0;" + FIVE_RANKS
                + "clerk a in 0;clerk b in 1 grey 1;clerk c in 2 grey 9;";
            for (String test : "a=0 a<1 b=1 b>0 b<2 c=5 c>4".split(" ")) run(of, "when rank " + test + ";run;end;").gives("live(0)", 2);
            for (String test : "a>0 a=1 b=0 b=2 b<1 b>1 c=4 c<5 c>5".split(" ")) {
                run(of, "when rank " + test + ";run;end;").gives("live(0)", 1);
            }
            faultyDecades(of, "when rank a=6;", 4, 12);
        });
        edge("looks: 0 to 99;", () -> {
            String of = "corner still 0;corner still 0;clerk a in 0;clerk b in 1 grey 60 sham 60;";
            for (String test : "a=0 a<1 b=99 b>98".split(" ")) run(of, "when looks " + test + ";run;end;").gives("live(0)", 2);
            for (String test : "a>0 a=1 b=60 b<99 b>99".split(" ")) run(of, "when looks " + test + ";run;end;").gives("live(0)", 1);
            faultyDecades(of, "when looks a=100;", 4, 13);
        });
        edge("cash: 0 to 9,999;", () -> {
            run("cash 0;", "when cash=0;run;end;").gives("live(0)", 2);
            run("cash 9999;", "when cash=9999;run;end;").gives("live(0)", 2);
            faultyDecades("", "when cash=10000;", 1, 10);
        });
    }

    /** Three clerks, none of whom has anything more to be dusted once he was; and how they are behind so many any. */
    private static void anyAsDrawn(int odds, int seed, int many) {
        int[] grey = {50, 60, 70};
        int s = seed;
        int missed = 0;
        int years = 0;
        for (int i = 0; i < many; i++) {
            s = drawn(s);
            int clerk = s / 8 % 3;
            s = drawn(s);
            if (s / 8 % 16 >= odds) {
                years++;
                for (int c = 0; c < 3; c++) grey[c]++;
            } else if (grey[clerk] == 0) {
                missed++;
            } else {
                grey[clerk] = 0;
            }
        }
        run("odds " + odds + ";" + CORNER.repeat(3) + "clerk a in 0 grey 50;clerk b in 1 grey 60;clerk c in 2 grey 70;",
            "any;".repeat(many)).told(many + " any by odds " + odds + " and seed " + seed).gives("live(" + seed + ")", many,
            "clerk(0, 2)", grey[0], "clerk(1, 2)", grey[1], "clerk(2, 2)", grey[2], "lived(0)", missed, "lived(1)", years);
    }

    private static void any() {
        edge("any: a CLERK by a draw by how many there are, a draw by 16 (both first):", () -> {
            for (int seed = 0; seed < 60; seed++) anyAsDrawn(12, seed * 166, 12);
        });
        edge("if that is below ODDS, he is DUSTED, else a YEAR goes by.", () -> {
            for (int odds = 0; odds <= 16; odds++) for (int seed = 0; seed < 40; seed++) anyAsDrawn(odds, seed, 1);
            run("odds 16;" + CORNER + "clerk a in 0 grey 5 sham 6;", "any;").gives("live(0)", 1, "clerk(0, 4)", 0, "told(6)", 0,
                "lived(0)", 0);
            run("odds 0;rank at 0 pay 3;" + CORNER + "clerk a in 0 grey 5;", "any;").gives("live(0)", 1, "clerk(0, 2)", 6,
                "told(6)", 1, "lived(1)", 1, "lived(2)", 3, "clerk(0, 1)", 1);
        });
    }

    private static void missed() {
        edge("What can't be is MISSED: YEARS beyond 9,999 (as a whole, by any, too),", () -> {
            run(PAIR, "year 20;year 19;year 17;year 2;year 1;year 1;").years(9961).gives("live(0)", 6, "lived(0)", 3,
                "lived(1)", 38, "told(6)", 9999);
            run("odds 0;" + PAIR, "any;any;year 1;").years(9998).gives("live(0)", 3, "lived(0)", 2, "lived(1)", 1, "told(6)", 9999,
                "clerk(0, 1)", 999);
        });
        edge("a move to a CORNER in which one sits (he himself, too),", () -> {
            run(PAIR, "move ann 1;move ann 0;move ann 2;move bob 0;move bob 2;").gives("live(0)", 5, "lived(0)", 3,
                "clerk(0, 0)", 2, "clerk(1, 0)", 0);
        });
        edge("a swap with oneself,", () -> {
            run(PAIR.replace("0;clerk bob", "0 grey 9 sham 9;clerk bob"), "swap ann ann;swap bob bob;")
                .gives("live(0)", 2, "lived(0)", 2, "clerk(0, 2)", 9, "clerk(0, 3)", 9).withDecades("swap ann bob;")
                .gives("live(0)", 1, "lived(0)", 0, "clerk(0, 0)", 1, "clerk(0, 2)", 4);
        });
        edge("a fan of a SHAM of 99,", () -> {
            run(PAIR, "fan ann 50;fan ann 48;fan ann 50;fan ann 1;fan ann 50;").gives("live(0)", 5, "lived(0)", 2, "clerk(0, 3)", 99);
        });
        edge("a dust (by any, too) of who has no GREY, no SHAM,", () -> {
            run(PAIR, "dust ann;fan ann 1;dust ann;year 1;dust ann;dust ann;dust ann;").gives("live(0)", 7, "lived(0)", 3);
            run("odds 16;" + CORNER + "clerk a in 0 grey 1;", "any;any;any;").gives("live(0)", 3, "lived(0)", 2, "lived(1)", 0);
            run("odds 16;" + CORNER + "clerk a in 0 sham 1;", "any;any;").gives("live(0)", 2, "lived(0)", 1);
        });
        edge("a look at who has no SHAM,", () -> {
            run(PAIR, "year 1;look ann;fan ann 1;look ann;look ann;").gives("live(0)", 5, "lived(0)", 2, "clerk(0, 2)", 1);
        });
        edge("a run to which nobody COMES,", () -> {
            run("client sum 9 nerve 0;client sum 1 nerve 1;", "run;run;").gives("live(0)", 2, "lived(0)", 1, "lived(3)", 10);
            // Who comes may be paid nothing: that is not missed.
            run("cash 0;client sum 9 nerve 0;", "run;run;").gives("live(0)", 2, "lived(0)", 0, "lived(3)", 0);
        });
        edge("any without CLERKS (no draws).", () -> {
            run("odds 0;", "any;any;").gives("live(0)", 2, "lived(0)", 2, "lived(1)", 0, "told(6)", 0);
            run("odds 16;" + CORNER, "any;any;").gives("live(0)", 2, "lived(0)", 2).gives("hire(0)", 0, "live(0)", 2,
                "lived(0)", 2).does("rule(4, 0)").gives("live(0)", 2, "lived(0)", 0, "lived(1)", 2);
        });
        edge("loop n (1 to 99): as often.", () -> {
            run(PAIR, "loop 1;year 1;end;").gives("live(0)", 2, "lived(1)", 1);
            run(PAIR, "loop 99;year 1;end;").gives("live(0)", 100, "lived(1)", 99);
            run(PAIR, "loop 2;loop 3;year 1;end;loop 4;year 1;end;end;").gives("live(0)", 1 + 2 * (1 + 3 + 1 + 4), "lived(1)", 14);
            faultyDecades(PAIR, "loop 0;", 4, 5);
            faultyDecades(PAIR, "loop 100;", 4, 5);
        });
        edge("At most 300 STEPS", () -> {
            // 1 and 198, 1 and 99, 1.
            run(PAIR, "loop 99;run;run;end;loop 99;run;end;year 1;").gives("live(0)", 300, "lived(4)", 0, "lived(0)", 297,
                "lived(1)", 1);
            run(PAIR, "loop 99;run;run;end;loop 98;run;end;year 1;").gives("live(0)", 299, "lived(4)", 0);
            run(PAIR, "loop 99;run;run;end;loop 99;run;end;run;year 1;").gives("live(0)", 300, "lived(1)", 0, "lived(4)", 1);
            run(PAIR, "loop 99;loop 99;year 1;end;end;").gives("live(0)", 300, "lived(1)", 99 + 99 + 98, "lived(4)", 1,
                "live(0)", 300, "lived(1)", 99 + 99 + 98, "lived(4)", 1).withDecades("loop 2;year 1;end;").gives("live(0)", 3, "lived(4)", 0, "lived(1)", 2);
        });
        edge("(when, loop count as one each time they are come to from ahead; end does not).", () -> {
            run("", "when cash=100;end;when cash=0;run;end;").gives("live(0)", 2);
            run("", "loop 5;end;").gives("live(0)", 1);
            run("", "loop 5;when cash=0;run;end;end;").gives("live(0)", 6);
            run("", "loop 5;loop 2;end;end;run;").gives("live(0)", 1 + 5 + 1);
            run("", "loop 99;loop 99;loop 99;end;end;end;").gives("live(0)", 300, "lived(4)", 1);
        });
    }

    private static void livedBySeed() {
        edge("LIVED by a seed (0 to 9,999), from how all is now:", () -> {
            run(PAIR, "year 2;").gives("live(0)", 1, "live(9999)", 1, "told(6)", 4, "clerk(0, 2)", 4)
                .refuses(1, "live(-1)", "live(10000)").gives("told(6)", 4);
        });
        edge("what it comes to stays (mean() alone takes it back).", () -> {
            run(PAIR, "year 2;fan ann 3;").gives("live(1)", 2, "clerk(0, 3)", 3, "told(6)", 2, "told(9)", 4)
                .givesFraction("mean(1, 3)", 8, 1).gives("clerk(0, 3)", 3, "told(6)", 2, "told(9)", 4);
        });
        edge("Draws: s, at first the seed, becomes what is left of s times 3,253 and 11,471 by 65,536;", () -> {
            for (int seed : new int[] {0, 1, 2, 3, 16, 100, 4096, 8191, 8192, 9998, 9999}) anyAsDrawn(5, seed, 9);
            // By 9,999: 32362 and 34241, so that the clerk is 4045 by 3, the draw by 16 is 4280 by 16.
            run("odds 9;" + CORNER.repeat(3) + "clerk a in 0 grey 5;clerk b in 1 grey 6;clerk c in 2 grey 7;", "any;")
                .gives("live(9999)", 1, "clerk(0, 2)", 5, "clerk(1, 2)", 0, "clerk(2, 2)", 7, "told(6)", 0);
            run("odds 8;" + CORNER.repeat(3) + "clerk a in 0 grey 5;clerk b in 1 grey 6;clerk c in 2 grey 7;", "any;")
                .gives("live(9999)", 1, "clerk(2, 2)", 8, "told(6)", 1);
        });
        edge("the draw by n is the rest of s by 8, rounded down, by n.", () -> {
            for (int n = 1; n <= 6; n++) {
                for (int seed = 0; seed < 30; seed++) {
                    StringBuilder of = new StringBuilder("odds 16;" + SEVEN);
                    for (int c = 0; c < n; c++) of.append("clerk ").append((char) ('a' + c)).append(" in ").append(c).append(" grey 1;");
                    int dusted = drawn(seed) / 8 % n;
                    run(of.toString(), "any;").gives("live(" + seed + ")", 1, "clerk(" + dusted + ", 2)", 0, "told(9)", n - 1);
                }
            }
        });
    }

    private static void marksAndFractions() {
        edge("MARKS, at most 3:", () -> {
            run(PAIR).gives("mark()", 1, "mark()", 2, "mark()", 3).refuses(4, "mark()").gives("undo()", 2, "mark()", 3,
                "undo()", 2, "undo()", 1, "undo()", 0).refuses(6, "undo()");
        });
        edge("the BANK with all that became of it, the DECADES are kept as they are;", () -> {
            String of = "odds 3;cash 9;corner still 2;corner still 3;corner still 4;rank at 0 pay 4;clerk ann in 0 served 5 grey 6 sham 7;"
                + "clerk bob in 1;client sum 8 nerve 0;client sum 1 nerve 50;";
            Run x = run(of, "year 1;any;").does("year(2)");
            String before = x.all();
            x.does("mark()", "year(3)", "move(0, 2)", "swap(0, 1)", "fan(1, 5)", "dust(0)", "run()", "hire(0)", "open(5, 5)",
                "calm(0, 9)", "calm(1, 8)", "rule(4, 9)", "rule(5, 999)", "year(2)").withDecades("run;run;run;").does("undo()");
            if (!x.all().equals(before)) wrong("not as it was: " + x.all() + ", but " + before);
            x.does("mark()").withBank("odds 1;corner still 9;rank at 7 pay 7;rank at 8 pay 8;rank at 9 pay 9;clerk zoe in 0;")
                .withDecades("run;run;run;").does("undo()");
            if (!x.all().equals(before)) wrong("not as it was: " + x.all() + ", but " + before);
            x.gives("live(0)", 2, "told(2)", 2);
            x = run().gives("mark()", 1).withBank(of).withDecades("run;").gives("undo()", 0, "told(0)", 0, "told(5)", 100)
                .refuses(6, "live(0)");
        });
        edge("all is taken back to the latest MARK, which is gone then.", () -> {
            run("cash 1;").does("mark()", "rule(5, 2)", "mark()", "rule(5, 3)", "mark()", "rule(5, 4)").gives("undo()", 2,
                "told(5)", 3, "undo()", 1, "told(5)", 2).does("rule(5, 7)", "mark()", "rule(5, 8)").gives("undo()", 1,
                "told(5)", 7, "undo()", 0, "told(5)", 1).refuses(6, "undo()").gives("told(5)", 1);
        });
        edge("FRACTIONS are told by top() and bottom() without a common divisor, the bottom above 0;", () -> {
            run(CORNER.repeat(2) + "clerk a in 0 grey 36;clerk b in 1 grey 48;", "year 1;").givesFraction("share(0)", 3, 7)
                .givesFraction("share(1)", 4, 7).givesFraction("mean(0, 4)", 86, 1).does("rule(4, 8)")
                .givesFraction("shams(1)", 3, 4);
        });
        edge("0 is 0 by 1.", () -> {
            run(CORNER.repeat(2) + "clerk a in 0;clerk b in 1 grey 48;", "dust b;").gives("top()", 0, "bottom()", 1)
                .givesFraction("share(1)", 1, 1).givesFraction("share(0)", 0, 1).givesFraction("shams(0)", 1, 1)
                .givesFraction("shams(3)", 0, 1).givesFraction("mean(0, 20)", 0, 1);
        });
    }

    public static void main(String[] args) {
        terms("year: so many", "==== 5.");
        numbersOfSteps();
        any();
        missed();
        livedBySeed();
        marksAndFractions();
        tellAndExit();
    }
}
