/** The edges of the Terms of what becomes of a BANK, of all that is ahead, and of STATUS. */
public final class EdgeStatesTest extends Edges {
    /** Corners 0 to 3, the last one free; ann looks 13, bob 29, cat 99. */
    private static final String BANK = "odds 8;cash 20;corner still 3;corner still 0;corner still 5;corner still 9;"
        + "rank at 10 pay 2;rank at 30 pay 5;rank at 60 pay 1;clerk ann in 0 served 3 grey 9 sham 4;"
        + "clerk bob in 1 served 999 grey 29;clerk cat in 2 grey 95 sham 99;"
        + "client sum 10 nerve 0;client sum 5 nerve 10;client sum 7 nerve 16;";

    private static String clerks(String... all) {
        StringBuilder text = new StringBuilder();
        for (int i = 0; i < all.length; i++) {
            text.append("clerk ").append((char) ('a' + i)).append(" in ").append(i).append(" ").append(all[i]).append(";");
        }
        return text.toString();
    }

    private static String corners(int... stills) {
        StringBuilder text = new StringBuilder();
        for (int still : stills) text.append("corner still ").append(still).append(";");
        return text.toString();
    }

    // ---- ==== 2.

    private static void looksAndRanks() {
        edge("LOOKS of a CLERK: GREY and SHAM together (99 at most).", () -> {
            run(corners(0, 0, 0, 0, 0) + clerks("grey 3 sham 4", "grey 50 sham 48", "grey 50 sham 49", "grey 50 sham 50",
                "grey 99 sham 99")).gives("clerk(0, 4)", 7, "clerk(1, 4)", 98, "clerk(2, 4)", 99, "clerk(3, 4)", 99,
                "clerk(4, 4)", 99, "clerk(4, 2)", 99, "clerk(4, 3)", 99);
        });
        edge("RANK of a CLERK: the last one that is AT no more than he LOOKS;", () -> {
            run("rank at 10 pay 1;rank at 20 pay 1;rank at 99 pay 1;" + corners(0, 0, 0, 0, 0, 0)
                + clerks("grey 10", "grey 19", "grey 20", "grey 12 sham 8", "grey 98", "grey 60 sham 60"))
                .gives("rankOf(0)", 0, "rankOf(1)", 0, "rankOf(2)", 1, "rankOf(3)", 1, "rankOf(4)", 1, "rankOf(5)", 2);
            run("rank at 0 pay 1;" + corners(0) + clerks("")).gives("rankOf(0)", 0);
        });
        edge("none, if there is none such (he has no PAY then).", () -> {
            run("cash 0;rank at 10 pay 9;" + corners(0) + clerks("grey 4 sham 5")).refuses(6, "rankOf(0)")
                .gives("year(1)", 0, "clerk(0, 5)", 0, "clerk(0, 6)", 0, "fan(0, 1)", 6, "rankOf(0)", 0, "year(1)", 0,
                "clerk(0, 6)", 1);
            run(corners(0) + clerks("grey 99")).refuses(6, "rankOf(0)").gives("year(99)", 0, "told(7)", 0);
        });
    }

    private static void years() {
        edge("A YEAR goes by (to 9,999):", () -> {
            run().years(9998).gives("told(6)", 9998).refuses(4, "year(2)").gives("year(1)", 0, "told(6)", 9999)
                .refuses(4, "year(1)", "year(99)").gives("told(6)", 9999);
        });
        edge("one by one each CLERK is PAID from CASH what the PAY of his RANK is", () -> {
            run("cash 11;rank at 0 pay 4;rank at 9 pay 3;" + corners(0, 0, 0) + clerks("", "grey 9", "grey 9"))
                .gives("year(1)", 10, "told(5)", 1, "clerk(0, 5)", 4, "clerk(1, 5)", 3, "clerk(2, 5)", 3, "told(8)", 10);
            // He is paid by how he looked ahead of the year.
            run("rank at 5 pay 3;" + corners(5) + clerks("")).gives("year(1)", 0, "year(1)", 3);
        });
        edge("(if there is not as much, nothing: he is UNPAID once more),", () -> {
            run("cash 8;rank at 0 pay 4;" + corners(0, 0, 0) + clerks("", "", "")).gives("year(1)", 8, "clerk(0, 6)", 0,
                "clerk(1, 6)", 0, "clerk(2, 6)", 1, "clerk(2, 5)", 0);
            run("cash 3;rank at 0 pay 4;rank at 1 pay 3;" + corners(0, 0) + clerks("", "grey 1")).gives("year(1)", 3,
                "clerk(0, 5)", 0, "clerk(0, 6)", 1, "clerk(1, 5)", 3, "clerk(1, 6)", 0, "told(5)", 0);
            run("cash 3;rank at 0 pay 4;" + corners(0) + clerks("")).gives("year(3)", 0, "clerk(0, 6)", 3, "told(5)", 3);
            run("cash 0;rank at 0 pay 0;" + corners(0) + clerks("")).gives("year(3)", 0, "clerk(0, 6)", 0);
        });
        edge("then he has SERVED a YEAR more (999 at most),", () -> {
            run(corners(0, 0, 0) + clerks("served 997", "served 999", "")).gives("year(1)", 0, "clerk(0, 1)", 998,
                "clerk(1, 1)", 999, "clerk(2, 1)", 1, "year(1)", 0, "clerk(0, 1)", 999, "year(1)", 0, "clerk(0, 1)", 999,
                "clerk(2, 1)", 3);
        });
        edge("and GREY is more by how STILL his CORNER is (99 at most).", () -> {
            run(corners(9, 9, 0, 1) + clerks("grey 90", "grey 89", "grey 5", "grey 99")).gives("year(1)", 0, "clerk(0, 2)", 99,
                "clerk(1, 2)", 98, "clerk(2, 2)", 5, "clerk(3, 2)", 99, "year(1)", 0, "clerk(0, 2)", 99, "clerk(1, 2)", 99);
        });
    }

    private static void whatIsDone() {
        edge("MOVE: a CLERK sits in another CORNER, in which nobody sits:", () -> {
            run(corners(0, 0, 0) + clerks("", "")).refuses(7, "move(0, 0)", "move(0, 1)").gives("move(0, 2)", 0,
                "clerk(0, 0)", 2, "corner(2, 1)", 0).refuses(6, "corner(0, 1)").gives("move(1, 0)", 0, "corner(0, 1)", 1);
        });
        edge("GREY is half of what it was, rounded down, SHAM is gone.", () -> {
            run(corners(0, 0) + clerks("grey 99 sham 99")).gives("move(0, 1)", 49, "clerk(0, 2)", 49, "clerk(0, 3)", 0,
                "move(0, 0)", 24, "move(0, 1)", 12, "move(0, 0)", 6, "move(0, 1)", 3, "move(0, 0)", 1, "move(0, 1)", 0,
                "move(0, 0)", 0);
        });
        edge("SWAP: two CLERKS sit each in the other's CORNER: both lose likewise.", () -> {
            run(corners(0, 0, 0) + clerks("grey 7 sham 3", "grey 1 sham 9", "grey 5 sham 5")).gives("swap(0, 2)", 5,
                "clerk(0, 0)", 2, "clerk(2, 0)", 0, "clerk(1, 0)", 1, "clerk(0, 2)", 3, "clerk(2, 2)", 2, "clerk(1, 2)", 1,
                "clerk(0, 3)", 0, "clerk(2, 3)", 0, "clerk(1, 3)", 9);
        });
        edge("FAN: SHAM is more (99 at most).", () -> {
            run(corners(0) + clerks("grey 99 sham 48")).gives("fan(0, 50)", 98, "fan(0, 1)", 99).refuses(7, "fan(0, 1)");
            run(corners(0) + clerks("sham 98")).gives("fan(0, 2)", 99, "clerk(0, 3)", 99, "clerk(0, 2)", 0);
        });
        edge("DUST: GREY and SHAM are gone.", () -> {
            run(corners(0) + clerks("served 5 grey 99 sham 99")).gives("dust(0)", 198, "clerk(0, 2)", 0, "clerk(0, 3)", 0,
                "clerk(0, 1)", 5);
        });
        edge("LOOK: SHAM is gone.", () -> {
            run(corners(0) + clerks("grey 9 sham 99")).gives("look(0)", 99, "clerk(0, 2)", 9, "clerk(0, 3)", 0);
        });
    }

    private static void runs() {
        edge("COME: those CLIENTS come, again and again, whose NERVE is no more than the SUMS of all others who come, together", () -> {
            run("client sum 9 nerve 0;client sum 1 nerve 9;client sum 1 nerve 10;client sum 1 nerve 12;").gives("comes()", 7);
            run("client sum 1 nerve 3;client sum 1 nerve 2;client sum 1 nerve 1;client sum 1 nerve 0;").gives("comes()", 15);
            run("client sum 9 nerve 9;client sum 9 nerve 0;").gives("comes()", 3);
            run("client sum 9 nerve 10;client sum 9 nerve 0;").gives("comes()", 2);
        });
        edge("(none come at first).", () -> {
            run("client sum 9 nerve 1;client sum 9 nerve 9;").gives("comes()", 0, "comesFor()", 0).refuses(7, "run()");
            run("client sum 9 nerve 0;").gives("comes()", 1);
        });
        edge("RUN: all who COME are paid their SUMS from CASH, by numbers", () -> {
            run("cash 9;client sum 9 nerve 0;client sum 9 nerve 0;").gives("run()", 9, "told(5)", 0, "told(3)", 1);
            run("cash 20;client sum 9 nerve 9;client sum 9 nerve 0;").gives("run()", 18, "told(5)", 2, "told(3)", 0);
        });
        edge("(one for whom there is not as much is passed over, those behind him may be paid):", () -> {
            run("cash 8;client sum 9 nerve 0;client sum 8 nerve 0;").gives("run()", 8, "told(3)", 1, "client(0, 0)", 9);
            run("cash 8;client sum 9 nerve 0;").gives("run()", 0, "told(3)", 1, "told(5)", 8);
        });
        edge("these are no more CLIENTS (those behind have a number less),", () -> {
            run("client sum 9 nerve 900;client sum 8 nerve 0;client sum 7 nerve 700;").gives("run()", 8, "told(3)", 2,
                "client(0, 0)", 9, "client(0, 1)", 900, "client(1, 0)", 7, "client(1, 1)", 700).refuses(1, "client(2, 0)");
        });
        edge("the others who COME stay, unpaid.", () -> {
            run("cash 5;client sum 9 nerve 0;client sum 5 nerve 9;client sum 6 nerve 9;").gives("run()", 5, "told(3)", 2,
                "client(0, 0)", 9, "client(1, 0)", 6, "told(5)", 0, "run()", 0, "told(3)", 2);
        });
    }

    // ---- ==== 3.

    private static void yearsAhead() {
        edge("All ahead is as all is now; nothing changes by it.", () -> {
            Run x = run(BANK, "year 3;any;run;swap ann bob;").gives("tray(0, 0, 5)", 1, "live(3)", 4);
            String before = x.all();
            x.does("greyIn(0, 40)", "rankIn(0, 40)", "unpaidIn()", "cashIn(40)", "seating(40)", "seatOf(40, 2)", "liked(40)",
                "isLiked(40, 0, 1)", "soon(0, 2)", "soonAt(0, 2)", "worth(0, 99, 40)", "leastFan(0, 2)", "fits(0, 2)",
                "fitsAt(0, 2, 0)", "ask(0, 2)", "comes()", "comesFor()", "calms()", "calmSet()", "game(1, 4)", "who(1, 4)");
            if (!x.all().equals(before)) wrong("something changed");
            run(BANK).does("year(2)", "move(0, 3)", "rule(5, 9)").gives("greyIn(0, 1)", 16, "cashIn(0)", 9);
        });
        edge("In n YEARS: as only YEARS go by", () -> {
            run(BANK).gives("greyIn(0, 3)", 18, "rankIn(0, 6)", 1, "cashIn(3)", 5).does("year(3)").gives("clerk(0, 2)", 18,
                "told(5)", 5);
            run("cash 9;client sum 9 nerve 0;").gives("cashIn(40)", 9);
        });
        edge("(YEAR 9,999 does not matter).", () -> {
            run("cash 50;rank at 0 pay 1;" + corners(1, 2) + clerks("", "")).does("rule(5, 0)").years(9999)
                .does("rule(5, 50)", "dust(0)", "dust(1)").refuses(4, "year(1)").gives("greyIn(0, 40)", 40, "rankIn(0, 9)", 0,
                "cashIn(20)", 10, "unpaidIn()", 26, "seating(10)", 30, "soon(0, 0)", 0, "told(6)", 9999);
        });
    }

    private static void seats() {
        edge("SEATING for n YEARS (0 to 40):", () -> {
            run(corners(1) + clerks("")).gives("seating(0)", 0, "seating(40)", 40, "seatOf(0, 0)", 0, "seatOf(40, 0)", 0)
                .refuses(1, "seating(-1)", "seating(41)", "seatOf(-1, 0)", "seatOf(41, 0)");
        });
        edge("all CLERKS in CORNERS, no two in one,", () -> {
            run(corners(0, 2, 9) + clerks("", "")).gives("seating(3)", 33, "seatOf(3, 0)", 1, "seatOf(3, 1)", 2);
            run(corners(0, 2, 9) + clerks("", "")).gives("seatOf(3, 1)", 2, "seatOf(0, 1)", 1, "seatOf(3, 0)", 1);
            run(corners(9, 9, 9, 9) + clerks("", "", "", "")).gives("seating(9)", 324).withBank(corners(1, 0) + clerks("", ""))
                .gives("seating(9)", 9);
            run(corners(0, 0, 0, 0, 0, 0, 9) + clerks("", "", "", "", "", "")).gives("seating(3)", 27, "seatOf(3, 5)", 6);
        });
        edge("who sits elsewhere than now MOVED now", () -> {
            run(corners(0, 5) + clerks("grey 50")).gives("seating(4)", 50, "seatOf(4, 0)", 0, "seating(6)", 55, "seatOf(6, 0)", 1);
            run(corners(0, 5) + clerks("grey 51")).gives("seating(6)", 55);
        });
        edge("(those whom another one follows, too),", () -> {
            // a 10 in still 9, b 90 in still 0: to change places leaves 5 and 45 + 90.
            run(corners(9, 0) + clerks("grey 10", "grey 90")).gives("seating(6)", 64 + 90, "seatOf(6, 0)", 0, "seating(10)", 189);
            run(corners(9, 0) + clerks("grey 90", "grey 0")).gives("seating(10)", 45 + 90, "seatOf(10, 0)", 1, "seatOf(10, 1)", 0);
        });
        edge("so that GREY of all in n YEARS together is the most;", () -> {
            run(corners(1, 9, 0) + clerks("grey 98", "grey 2", "grey 0")).gives("seating(0)", 100, "seating(5)", 99 + 47 + 0,
                "seating(40)", 99 + 1 + 99, "seatOf(40, 1)", 2, "seatOf(40, 2)", 1);
        });
        edge("of several the first by CLERKS, CORNER by CORNER.", () -> {
            run(corners(4, 4, 4) + "clerk a in 2;clerk b in 1;").gives("seatOf(9, 0)", 0, "seatOf(9, 1)", 1);
            run(corners(4, 4, 4) + "clerk a in 2;clerk b in 0;").gives("seatOf(9, 0)", 0, "seatOf(9, 1)", 1);
            run(corners(4, 4, 4) + "clerk a in 2 grey 1;clerk b in 1 grey 2;").gives("seatOf(9, 0)", 2, "seatOf(9, 1)", 1);
            run(corners(4, 4) + "clerk a in 1;clerk b in 0;").gives("seatOf(0, 0)", 0, "seatOf(0, 1)", 1);
        });
        edge("LIKED by n is a SWAP by which GREY of the two together in n YEARS is more than without.", () -> {
            // 99 without; 49 and three for each year with.
            run(corners(3, 0) + clerks("grey 99", "")).gives("isLiked(16, 0, 1)", 0, "isLiked(17, 0, 1)", 1, "liked(17)", 1);
            // As many: 99 without, 49 and 50 with.
            run(corners(5, 0) + clerks("grey 99", "")).gives("isLiked(10, 0, 1)", 0, "isLiked(11, 0, 1)", 1, "liked(10)", 0);
            run(corners(3, 5) + clerks("", "")).gives("isLiked(5, 0, 1)", 0, "isLiked(40, 1, 0)", 0, "liked(40)", 0);
        });
    }

    private static void soon() {
        edge("SOON of a CLERK and a RANK: the fewest YEARS (0 to 99) till he is of that RANK, or a higher one,", () -> {
            run("rank at 5 pay 1;rank at 9 pay 1;rank at 99 pay 1;" + corners(1, 0) + clerks("", "grey 9"))
                .gives("soon(0, 0)", 5, "soon(0, 1)", 9, "soon(0, 2)", 99, "soon(1, 0)", 0, "soon(1, 1)", 0)
                .refuses(6, "soon(1, 2)", "soonAt(1, 2)");
            run("rank at 99 pay 1;rank at 5 pay 1;".substring(0, 17) + corners(1) + clerks("grey 1")).gives("soon(0, 0)", 98);
        });
        edge("if he MOVES now to the best CORNER in which nobody sits, or stays;", () -> {
            run("rank at 18 pay 1;" + corners(9, 2, 3, 1) + clerks("", "")).gives("soon(1, 0)", 6, "soonAt(1, 0)", 2,
                "soon(0, 0)", 2, "soonAt(0, 0)", 0);
            run("rank at 18 pay 1;" + corners(0, 9) + clerks("", "")).refuses(6, "soon(0, 0)", "soonAt(0, 0)");
            run("rank at 18 pay 1;" + corners(9, 3, 0) + "clerk a in 1;").gives("soon(0, 0)", 2, "soonAt(0, 0)", 0);
            run("rank at 18 pay 1;" + corners(9, 3, 0) + "clerk a in 2;").gives("soon(0, 0)", 2, "soonAt(0, 0)", 0);
            run("rank at 18 pay 1;" + corners(3, 0, 2, 0) + clerks("")).gives("soon(0, 0)", 6, "soonAt(0, 0)", 0);
        });
        edge("of several CORNERS that by which it is as soon his own, then the first", () -> {
            run("rank at 18 pay 1;" + corners(3, 3, 3) + "clerk a in 1;").gives("soonAt(0, 0)", 1);
            run("rank at 18 pay 1;" + corners(1, 3, 3) + clerks("")).gives("soonAt(0, 0)", 1);
            // 9 by 7 and by 8 is 2 years for each.
            run("rank at 9 pay 1;" + corners(1, 7, 8) + clerks("")).gives("soon(0, 0)", 2, "soonAt(0, 0)", 1);
        });
        edge("(SHAM is gone, if he MOVES).", () -> {
            run("rank at 18 pay 1;" + corners(1, 2) + clerks("sham 12")).gives("soon(0, 0)", 6, "soonAt(0, 0)", 0);
            run("rank at 18 pay 1;" + corners(1, 9) + clerks("sham 12")).gives("soon(0, 0)", 2, "soonAt(0, 0)", 1);
            run("rank at 18 pay 1;" + corners(1, 9) + clerks("grey 3 sham 12")).gives("soon(0, 0)", 2, "soonAt(0, 0)", 1);
        });
    }

    private static void fans() {
        edge("WORTH of a FAN by m (0 to 99) for n YEARS: how much more PAY of his RANKS is in these YEARS together,", () -> {
            String of = "rank at 10 pay 2;rank at 30 pay 7;" + corners(5) + clerks("");
            // He looks 0, 5, 10, 15 ..: none, none, 2, 2, 2, 2, 7 ..; by 10 more 2, 2, 2, 2, 7, 7, 7 ..
            run(of).gives("worth(0, 10, 0)", 0, "worth(0, 10, 1)", 2, "worth(0, 10, 2)", 4, "worth(0, 10, 4)", 4,
                "worth(0, 10, 5)", 9, "worth(0, 10, 6)", 14, "worth(0, 10, 40)", 14, "worth(0, 0, 40)", 0, "worth(0, 99, 1)", 7)
                .refuses(1, "worth(0, -1, 1)", "worth(0, 100, 1)", "worth(0, 1, 41)", "worth(0, 1, -1)");
            run("rank at 0 pay 7;rank at 5 pay 3;" + corners(0) + clerks("")).gives("worth(0, 5, 2)", -8, "worth(0, 4, 2)", 0);
        });
        edge("if SHAM is m more now (99 at most), CASH does not matter.", () -> {
            run("cash 0;rank at 99 pay 7;" + corners(0, 0) + clerks("grey 9 sham 80", "grey 0 sham 98"))
                .gives("worth(0, 10, 3)", 21, "worth(0, 9, 3)", 0, "worth(1, 99, 3)", 21, "worth(1, 1, 3)", 21, "worth(1, 0, 3)", 0);
        });
        edge("LEAST FAN of a RANK: the least m by which he is of that RANK, or a higher one, now.", () -> {
            run("rank at 0 pay 1;rank at 50 pay 1;rank at 99 pay 1;" + corners(0, 0, 0) + clerks("", "grey 20 sham 30", "grey 99"))
                .gives("leastFan(0, 0)", 0, "leastFan(0, 1)", 50, "leastFan(0, 2)", 99, "leastFan(1, 1)", 0, "leastFan(1, 2)", 49,
                "leastFan(2, 1)", 0, "leastFan(2, 2)", 0);
        });
    }

    private static void stills() {
        edge("FITS of a TRAY: by twos YEARS (0 to 99) and GREY (0 to 99),", () -> {
            Run x = run().gives("tray(0, 1, 2)", 1, "fits(0, 1)", 10, "write(0, 0, 99)", 1, "write(0, 1, 99)", 1, "fits(0, 1)", 9);
            x.gives("write(0, 0, 100)", 1).refuses(5, "fits(0, 1)").gives("write(0, 0, -1)", 1).refuses(5, "fits(0, 1)");
            x.gives("write(0, 0, 9)", 1, "fits(0, 1)", 0, "write(0, 1, 100)", 1).refuses(5, "fits(0, 1)")
                .gives("write(0, 1, -1)", 1).refuses(5, "fits(0, 1)").gives("write(0, 1, 0)", 1, "fits(0, 1)", 1);
        });
        edge("the first n (0 to 20) twos:", () -> {
            run().gives("tray(0, 0, 41)", 1, "write(0, 40, 100)", 1, "fits(0, 20)", 10, "fits(0, 0)", 10)
                .refuses(1, "fits(0, 21)", "fits(0, -1)");
            run().gives("tray(0, 0, 39)", 1, "fits(0, 19)", 10).refuses(3, "fits(0, 20)");
            run().gives("tray(0, 0, 40)", 1, "write(0, 39, 100)", 1).refuses(5, "fits(0, 20)").gives("fits(0, 19)", 10);
            run().gives("tray(0, 0, 4)", 1, "write(0, 2, 100)", 1, "write(0, 3, -1)", 1, "fits(0, 1)", 10, "ask(0, 1)", 1,
                "fitsAt(0, 1, 9)", 9).refuses(5, "fits(0, 2)");
            run().gives("tray(0, 0, 4)", 1, "write(0, 2, 1)", 1, "write(0, 3, 99)", 1, "fits(0, 1)", 10, "fits(0, 2)", 0);
        });
        edge("how many STILLS (0 to 9) there are", () -> {
            run().gives("tray(0, 0, 2)", 1, "fits(0, 1)", 10, "fitsAt(0, 1, 0)", 0, "fitsAt(0, 1, 9)", 9, "write(0, 0, 11)", 1,
                "write(0, 1, 99)", 1, "fits(0, 1)", 1, "fitsAt(0, 1, 0)", 9, "write(0, 0, 1)", 1, "write(0, 1, 10)", 1,
                "fits(0, 1)", 0);
        });
        edge("by which one who had no GREY has just that GREY in so many YEARS, for all twos.", () -> {
            Run x = run().gives("tray(0, 0, 4)", 1, "write(0, 0, 7)", 1, "write(0, 1, 21)", 1, "fits(0, 1)", 1,
                "fitsAt(0, 1, 0)", 3, "write(0, 1, 22)", 1, "fits(0, 1)", 0);
            // 99 at most: by 20 years all from 5 on; by 12 years 96 is 8 alone.
            x.gives("write(0, 0, 20)", 1, "write(0, 1, 99)", 1, "fits(0, 1)", 5, "fitsAt(0, 1, 0)", 5, "write(0, 2, 12)", 1,
                "write(0, 3, 96)", 1, "fits(0, 2)", 1, "fitsAt(0, 2, 0)", 8);
            x.gives("write(0, 0, 12)", 1, "write(0, 1, 96)", 1, "write(0, 2, 20)", 1, "write(0, 3, 99)", 1, "fits(0, 2)", 1,
                "fitsAt(0, 2, 0)", 8, "write(0, 3, 98)", 1, "fits(0, 2)", 0);
        });
        edge("ASK: the YEARS (1 to 20) by which these are parted the best: the most with one GREY are the fewest; of several the least.",
            () -> {
                run().gives("tray(0, 0, 2)", 1, "ask(0, 0)", 1, "write(0, 0, 20)", 1, "write(0, 1, 99)", 1, "ask(0, 1)", 1);
                run().gives("tray(0, 0, 2)", 1, "write(0, 0, 13)", 1, "write(0, 1, 99)", 1, "fits(0, 1)", 2, "ask(0, 1)", 1);
            });
    }

    private static void calms() {
        edge("CALM: the fewest CLIENTS who must not COME,", () -> {
            run("cash 9;client sum 9 nerve 0;client sum 9 nerve 1;").gives("calms()", 1, "calmSet()", 1);
            run("cash 0;client sum 9 nerve 0;client sum 9 nerve 9;").gives("calms()", 1, "calmSet()", 1);
            run("cash 0;client sum 9 nerve 0;client sum 9 nerve 0;").gives("calms()", 2, "calmSet()", 3);
            run("cash 0;" + "client sum 1 nerve 0;".repeat(8)).gives("calms()", 8, "calmSet()", 255);
            // Without 0 and 1 nobody comes, but without 2 alone they are paid.
            run("cash 20;client sum 10 nerve 0;client sum 10 nerve 0;client sum 50 nerve 10;").gives("calms()", 1, "calmSet()", 4);
        });
        edge("whatever others do,", () -> run("cash 5;client sum 9 nerve 5;client sum 5 nerve 0;").gives("calms()", 1, "calmSet()", 1));
        edge("so that those who COME then have SUMS together of no more than CASH;", () -> {
            run("cash 18;client sum 9 nerve 0;client sum 9 nerve 0;").gives("calms()", 0, "calmSet()", 0);
            run("cash 17;client sum 9 nerve 0;client sum 9 nerve 0;").gives("calms()", 1);
            run("cash 0;client sum 9 nerve 1;").gives("calms()", 0, "calmSet()", 0);
            run("").gives("calms()", 0, "calmSet()", 0);
        });
        edge("of several sets the least as a number (1 for CLIENT 0 ..).", () -> {
            run("cash 18;client sum 9 nerve 0;client sum 9 nerve 0;client sum 9 nerve 0;").gives("calmSet()", 1)
                .does("rule(5, 9)").gives("calmSet()", 3);
            run("cash 20;client sum 1 nerve 0;client sum 9 nerve 0;client sum 9 nerve 0;client sum 9 nerve 0;").gives("calmSet()", 2);
        });
    }

    private static void games() {
        String ranks = "rank at 20 pay 1;rank at 60 pay 1;";
        edge("GAME of a RANK and n turns (0 to 4):", () -> {
            run(ranks + corners(1) + clerks("grey 19")).gives("game(0, 0)", 0, "game(0, 1)", 1, "game(0, 4)", 1)
                .refuses(1, "game(0, -1)", "game(0, 5)", "who(0, 5)").gives("who(0, 4)", 0);
            run(ranks + corners(1, 1, 1, 1, 0) + clerks("grey 19", "grey 19", "grey 19", "grey 19", "grey 20"))
                .gives("game(0, 3)", 2, "game(0, 4)", 2);
        });
        edge("by turns, first one who sits, then a draught:", () -> {
            run(ranks + corners(1, 1) + clerks("grey 19", "grey 19")).gives("game(0, 0)", 0, "game(0, 1)", 1, "game(0, 2)", 1,
                "game(0, 3)", 1);
            run(ranks + corners(0, 0) + clerks("grey 20", "grey 20")).gives("game(0, 0)", 2, "game(0, 1)", 2, "game(0, 2)", 1,
                "game(0, 3)", 1, "game(0, 4)", 1);
            run(ranks + corners(0, 0, 0, 0, 0) + clerks("grey 20", "grey 20", "grey 20", "grey 20", "grey 20"))
                .gives("game(0, 2)", 4, "game(0, 3)", 4, "game(0, 4)", 3);
        });
        edge("the one gives a CLERK the GREY of one YEAR in his CORNER,", () -> {
            run(ranks + corners(4) + clerks("grey 16")).gives("game(0, 1)", 1);
            run(ranks + corners(4) + clerks("grey 15")).gives("game(0, 1)", 0);
            run("rank at 99 pay 1;" + corners(9) + clerks("grey 95")).gives("game(0, 1)", 1);
        });
        edge("the other takes half of his GREY (what is left is rounded down);", () -> {
            run(ranks + corners(0, 0) + clerks("grey 99", "grey 40")).gives("game(0, 2)", 2);
            run(ranks + corners(0, 0) + clerks("grey 99", "grey 39")).gives("game(0, 2)", 2, "who(0, 2)", 1);
            run(ranks + corners(0, 0) + clerks("grey 39", "grey 39")).gives("game(0, 2)", 1);
            // What is sham stays: 10 and 10.
            run(ranks + corners(0, 0) + clerks("grey 20 sham 10", "grey 20 sham 10")).gives("game(0, 2)", 2);
            run(ranks + corners(0, 0) + clerks("grey 19 sham 10", "grey 19 sham 10")).gives("game(0, 2)", 1);
        });
        edge("or nothing;", () -> {
            run(ranks).gives("game(0, 4)", 0).refuses(6, "who(0, 1)", "who(0, 4)");
            run(ranks + corners(1) + clerks("grey 20")).gives("game(0, 4)", 1, "game(0, 3)", 1);
        });
        edge("each a CLERK whom neither chose in the game:", () -> {
            run(ranks + corners(9) + clerks("grey 9")).gives("game(0, 1)", 0, "game(0, 3)", 0);
            run(ranks + corners(0) + clerks("grey 20")).gives("game(0, 2)", 1, "game(0, 4)", 1);
            run("rank at 5 pay 1;" + corners(0, 0) + clerks("grey 20", "grey 20")).gives("game(0, 4)", 2);
        });
        edge("how many CLERKS are of that RANK, or a higher one, in the end, by best play (the first wants many).", () -> {
            run(ranks + corners(1, 1, 1) + clerks("grey 70", "grey 20", "grey 19")).gives("game(0, 0)", 2, "game(1, 0)", 1,
                "game(0, 1)", 3, "game(1, 1)", 1, "game(0, 2)", 2, "game(1, 2)", 1);
            run(ranks + corners(0, 9, 9) + clerks("grey 20", "grey 11", "grey 12")).gives("game(0, 1)", 2, "game(0, 3)", 2);
            run(ranks + corners(1, 1, 1, 1, 1, 1) + clerks("grey 19", "grey 19", "grey 19", "grey 20", "grey 20", "grey 20"))
                .gives("game(0, 0)", 3, "game(0, 1)", 4, "game(0, 2)", 3, "game(0, 3)", 4, "game(0, 4)", 3)
                .withBank(ranks + corners(1) + clerks("grey 20")).gives("game(0, 0)", 1, "game(0, 4)", 1);
        });
        edge("WHO: the first's first CLERK, of all that are as good the first;", () -> {
            run(ranks + corners(1, 1, 1) + clerks("grey 18", "grey 19", "grey 19")).gives("who(0, 1)", 1, "who(0, 2)", 1);
            run(ranks + corners(1, 1) + clerks("grey 0", "grey 0")).gives("who(0, 1)", 0);
            run(ranks + corners(0, 0) + clerks("grey 20", "grey 20")).gives("who(0, 2)", 0);
            run(ranks + corners(0, 0) + clerks("grey 9", "grey 20")).gives("who(0, 2)", 1);
            run(ranks + corners(0, 0) + clerks("grey 99", "grey 20")).gives("who(0, 2)", 1);
        });
        edge("nothing comes last.", () -> {
            run(ranks + corners(0, 0) + clerks("grey 99", "grey 99")).gives("who(1, 1)", 0, "who(0, 4)", 0);
            run(ranks + corners(0)).refuses(6, "who(0, 1)");
        });
    }

    private static void shamsAndShares() {
        edge("Each CLERK is a sham by ODDS sixteenths: SHAMS of k: the odds that k or more are.", () -> {
            run("odds 4;" + corners(0, 0) + clerks("", "")).givesFraction("shams(0)", 1, 1).givesFraction("shams(1)", 7, 16)
                .givesFraction("shams(2)", 1, 16).givesFraction("shams(3)", 0, 1);
            run("odds 1;" + corners(0, 0, 0, 0, 0, 0) + clerks("", "", "", "", "", ""))
                .givesFraction("shams(6)", 1, 16777216).givesFraction("shams(5)", 91, 16777216);
            run("odds 16;" + corners(0) + clerks("")).givesFraction("shams(1)", 1, 1).givesFraction("shams(2)", 0, 1);
            run("odds 0;" + corners(0) + clerks("")).givesFraction("shams(1)", 0, 1).givesFraction("shams(0)", 1, 1);
        });
        edge("SHARE of a CLERK: his GREY by that of all.", () -> {
            run(corners(0, 0, 0) + clerks("grey 6 sham 9", "grey 9", "grey 0 sham 50")).givesFraction("share(0)", 2, 5)
                .givesFraction("share(1)", 3, 5).givesFraction("share(2)", 0, 1);
            run(corners(0) + clerks("grey 7")).givesFraction("share(0)", 1, 1);
        });
    }

    // ---- ==== 5.

    private static void statuses() {
        edge("STATUS of a call is the first of these that holds:", () -> {
            String full = corners(0, 0, 0, 0, 0, 0, 0) + clerks("", "", "", "", "", "");
            run(full + "client sum 1 nerve 0;".repeat(8)).refuses(1, "hire(7)", "open(0, 0)").refuses(4, "hire(0)", "open(1, 0)");
            run().years(9999).refuses(1, "year(0)", "year(100)").refuses(4, "year(99)");
            run().refuses(1, "read(4, -1)", "write(-1, 99, 0)", "fitsAt(0, 1, -1)", "fitsAt(0, 21, 0)").refuses(2, "read(0, 99)",
                "write(0, -1, 0)", "fitsAt(0, 9, 0)", "fits(0, 20)", "ask(0, 1)", "copyGrey(0)").refuses(1, "pour(0, -1, 1, 0, 0)",
                "live(-1)", "mean(0, 0)").refuses(6, "live(0)", "mean(0, 1)");
            Run x = run().gives("tray(0, 0, 2)", 1, "write(0, 1, 100)", 1).refuses(3, "fits(0, 2)", "ask(0, 2)", "fitsAt(0, 2, 0)")
                .refuses(5, "fits(0, 1)", "ask(0, 1)", "fitsAt(0, 1, 99)");
            x.gives("write(0, 1, 99)", 1).refuses(6, "fitsAt(0, 1, 0)", "ask(0, 1)");
            run(corners(0) + clerks("")).refuses(1, "share(1)", "rankOf(1)", "soon(0, 0)").refuses(6, "share(0)", "rankOf(0)")
                .refuses(1, "fan(1, 1)", "fan(0, 0)", "dust(1)", "look(1)", "move(1, 0)", "move(0, 1)")
                .refuses(7, "dust(0)", "look(0)", "move(0, 0)").refuses(1, "bank(1)", "decades(1)");
        });
        edge("1 a number that can't be;", () -> run(BANK).refuses(1, "year(0)", "told(11)", "fan(0, 51)", "seating(41)"));
        edge("no such TRAY, CORNER, RANK, CLERK, CLIENT;", () -> {
            run(BANK).refuses(1, "tray(4, 0, 0)", "read(-1, 0)", "corner(4, 0)", "corner(-1, 0)", "rank(3, 0)", "rank(-1, 0)",
                "clerk(3, 0)", "clerk(-1, 0)", "client(3, 0)", "client(-1, 0)").gives("corner(3, 0)", 9, "rank(2, 0)", 60,
                "clerk(2, 0)", 2, "client(2, 0)", 7);
        });
        edge("one and himself where two must be.", () -> {
            run(BANK).refuses(1, "swap(0, 0)", "swap(2, 2)", "isLiked(1, 1, 1)").gives("isLiked(1, 1, 0)", 0, "swap(0, 2)", 51);
        });
        edge("2 the TRAY is MISSING.", () -> {
            run().refuses(2, "read(0, 0)", "write(3, 0, 1)", "pour(0, 0, 0, 0, 0)", "fits(1, 0)", "fitsAt(1, 0, 0)", "ask(1, 0)",
                "copyGrey(2)").gives("tray(2, 0, 0)", 1, "copyGrey(2)", 0).refuses(2, "pour(2, 0, 1, 0, 0)", "pour(1, 0, 2, 0, 0)");
        });
        edge("3 a place that the TRAY has not, or too few numbers.", () -> {
            run(BANK).gives("tray(0, 0, 2)", 1).refuses(3, "read(0, 2)", "read(0, -1)", "write(0, 2, 1)", "write(0, -1, 1)",
                "read(0, 2147483647)", "read(0, -2147483648)", "copyGrey(0)", "fits(0, 2)", "pour(0, 0, 0, 1, 2)");
        });
        edge("4 one too many.", () -> run().does("mark()", "mark()", "mark()").refuses(4, "mark()").gives("undo()", 2));
        edge("5 a number in a TRAY that can't be.", () -> {
            run().gives("tray(0, 3, 2)", 1, "write(0, 0, 4294967296)", 1).refuses(5, "fits(0, 1)", "fitsAt(0, 1, 0)", "ask(0, 1)")
                .gives("write(0, 0, 0)", 1, "write(0, 1, -4294967296)", 1).refuses(5, "fits(0, 1)");
        });
        edge("6 there is none such.", () -> run().refuses(6, "unpaidIn()", "live(0)", "lived(0)", "undo()", "mean(0, 1)"));
        edge("7 it can't be.", () -> run(BANK).refuses(7, "move(0, 1)", "fan(2, 1)", "look(1)", "hire(0)"));
        edge("8 TRAYS are of unlike sorts.", () -> {
            run().gives("tray(0, 0, 2)", 1, "tray(1, 1, 2)", 1).refuses(8, "pour(0, 0, 1, 0, 1)", "pour(1, 0, 0, 0, 0)")
                .gives("tray(1, 0, 2)", 1, "pour(0, 0, 1, 0, 1)", 1);
        });
        edge("9 a FAULT.", () -> {
            Run x = run(BANK);
            x.feed("odds 17;");
            x.refuses(9, "bank(8)");
            x.feed("odds 17;");
            x.refuses(9, "decades(8)");
        });
        edge("0 else.", () -> run(BANK).gives("year(1)", 5, "told(6)", 1));
    }

    private static Run made() {
        Run x = run(BANK, "any;year 1;run;").does("mark()", "tray(0, 0, 5)", "tray(1, 1, 2)", "write(0, 1, 100)", "live(7)",
            "share(1)", "year(2)");
        x.feed("odds 17;");
        return x;
    }

    private static void unchanged(int status, String... calls) {
        for (String call : calls) {
            Run untouched = made();
            Run x = made().refuses(status, call);
            if (!x.all().equals(untouched.all())) wrong("something changed by " + call);
            x.told("behind " + call).gives("feed(0, 0, 0, 0, 0)", 40, "live(3)", 3, "undo()", 0, "live(3)", 3);
        }
    }

    private static void refused() {
        edge("With another STATUS than 0 a call gives NONE, or false, and changes nothing else", () -> {
            unchanged(1, "tray(0, 4, 1)", "tray(0, 0, 61)", "write(4, 0, 1)", "pour(0, 0, 4, 0, 1)", "bank(21)", "bank(-1)",
                "decades(21)", "decades(301)", "year(100)", "move(0, 4)", "swap(0, 0)", "fan(0, 51)", "dust(3)", "look(3)",
                "hire(4)", "open(100, 0)", "open(1, 1000)", "calm(0, 10)", "calm(4, 1)", "rule(4, 17)", "rule(5, 10000)",
                "rule(6, 1)", "shams(7)", "share(3)", "copyGrey(4)", "live(10000)", "mean(9999, 2)", "mean(0, 21)");
            unchanged(2, "write(2, 0, 1)", "pour(2, 0, 0, 0, 1)", "copyGrey(2)");
            unchanged(3, "write(0, 5, 1)", "pour(0, 0, 0, 4, 2)", "copyGrey(1)");
            unchanged(5, "fits(0, 1)", "ask(0, 1)");
            unchanged(7, "move(0, 1)", "move(0, 0)", "fan(2, 1)", "look(1)", "hire(0)");
            unchanged(8, "pour(0, 0, 1, 0, 1)");
            Run x = made().does("dust(0)", "dust(1)", "dust(2)").givesFraction("shams(3)", 1, 8).refuses(6, "share(0)");
            x.gives("top()", 1, "bottom()", 8);
            // One year by any, one by the DECADES, two behind them.
            x.gives("told(6)", 4).years(9990).refuses(4, "year(99)").gives("told(6)", 9994);
        });
        edge("(but bank(), decades() with 9 the tape, and what fault() tells).", () -> {
            for (String name : new String[] {"bank", "decades"}) {
                Run untouched = made();
                Run x = made().refuses(9, name + "(8)").gives("fault(0)", name.equals("bank") ? 4 : 2, "fault(1)",
                    name.equals("bank") ? 5 : 0, "feed(0, 0, 0, 0, 0)", 20);
                String all = x.all();
                String was = untouched.all();
                if (!all.substring(0, all.length() - 6).equals(was.substring(0, was.length() - 7))) wrong("something changed");
                x.gives("live(3)", 3, "undo()", 0, "live(3)", 3);
            }
        });
        edge("status(), top(), bottom(), feed(), fault() have none.", () -> {
            run(BANK).refuses(7, "look(1)").gives("status()", 7, "top()", 0, "status()", 7, "bottom()", 1, "status()", 7,
                "feed(0, 0, 0, 0, 0)", 20, "status()", 7, "fault(0)", 0, "status()", 7, "fault(9)", -1, "status()", 7,
                "status()", 7);
            Run x = run();
            x.feed(" ".repeat(900));
            x.gives("feed(0, 0, 0, 0, 0)", -1, "status()", 0, "fault(5)", -1, "status()", 0);
        });
        edge("Where a number may be below 0 (worth()), STATUS tells NONE from -1.", () -> {
            run("rank at 0 pay 7;rank at 5 pay 6;" + corners(0) + clerks("")).gives("worth(0, 5, 1)", -1)
                .refuses(1, "worth(1, 5, 1)");
        });
        edge("The constants: NONE = -1: None.", () -> {
            if (WebBank.NONE != -1) wrong("NONE is " + WebBank.NONE);
        });
    }

    public static void main(String[] args) {
        terms("LOOKS of a CLERK", "==== 3.");
        looksAndRanks();
        years();
        whatIsDone();
        runs();
        terms("All ahead is as all is now", "==== 4.");
        yearsAhead();
        seats();
        soon();
        fans();
        stills();
        calms();
        games();
        shamsAndShares();
        terms("STATUS of a call", "Ahead of the calls tray");
        statuses();
        refused();
        tellAndExit();
    }
}
