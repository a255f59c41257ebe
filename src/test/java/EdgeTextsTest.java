/** The edges of the Terms that texts rest on: TRAYS, BANKS as a text, FAULTS, DECADES as a text. */
public final class EdgeTextsTest extends Edges {
    private static final String CORNER = "corner still 1;";
    private static final String SEVEN = CORNER.repeat(7);
    private static final String TWO = CORNER.repeat(2);
    private static final String FIVE_RANKS = "rank at 1 pay 1;rank at 2 pay 1;rank at 3 pay 1;rank at 4 pay 1;rank at 5 pay 1;";
    private static final String SIX_CLERKS = SEVEN + "clerk a in 0;clerk b in 1;clerk c in 2;clerk d in 3;clerk e in 4;"
        + "clerk f in 5;";
    private static final String EIGHT_CLIENTS = "client sum 1 nerve 0;".repeat(8);
    private static final String WORDS = "odds, cash, corner, still, rank, at, pay, clerk, in, served, grey, sham, client, sum, "
        + "nerve, year, move, swap, fan, dust, look, run, any, when, looks, loop, end, stop";
    /** Two corners, ann in the first, bob in the second. */
    private static final String PAIR = TWO + "clerk ann in 0;clerk bob in 1;";

    private static String chars(int... all) {
        StringBuilder text = new StringBuilder();
        for (int one : all) text.append((char) one);
        return text.toString();
    }

    private static void trays() {
        edge("TRAYS 0 to 3", () -> {
            run().gives("tray(0, 0, 1)", 1, "tray(1, 0, 1)", 1, "tray(2, 0, 1)", 1, "tray(3, 0, 1)", 1)
                .refuses(1, "tray(-1, 0, 1)", "tray(4, 0, 1)");
        });
        edge("are MISSING at first,", () -> run().refuses(2, "read(0, 0)", "read(1, 0)", "read(2, 0)", "read(3, 0)"));
        edge("or rows of 0 to 60 numbers", () -> {
            run().gives("tray(0, 0, 0)", 1).refuses(3, "read(0, 0)", "write(0, 0, 1)");
            run().gives("tray(0, 0, 60)", 1, "write(0, 59, 7)", 1, "read(0, 59)", 7, "read(0, 0)", 0)
                .refuses(3, "read(0, 60)", "write(0, 60, 7)");
            run().gives("tray(0, 0, 1)", 1).refuses(1, "tray(0, 0, -1)", "tray(0, 0, 61)").gives("read(0, 0)", 0);
        });
        edge("of 8 bits (sort 0),", () -> {
            run().refuses(1, "tray(0, -1, 1)").gives("tray(0, 0, 1)", 1, "write(0, 0, 127)", 1, "read(0, 0)", 127,
                "write(0, 0, 128)", 1, "read(0, 0)", -128, "write(0, 0, -129)", 1, "read(0, 0)", 127,
                "write(0, 0, 256)", 1, "read(0, 0)", 0, "write(0, 0, -1)", 1, "read(0, 0)", -1);
        });
        edge("16 (1),", () -> {
            run().gives("tray(0, 1, 1)", 1, "write(0, 0, 32767)", 1, "read(0, 0)", 32767,
                "write(0, 0, 32768)", 1, "read(0, 0)", -32768, "write(0, 0, -32769)", 1, "read(0, 0)", 32767,
                "write(0, 0, 65536)", 1, "read(0, 0)", 0);
        });
        edge("32 (2)", () -> {
            run().gives("tray(0, 2, 1)", 1, "write(0, 0, 2147483647)", 1, "read(0, 0)", 2147483647,
                "write(0, 0, 2147483648)", 1, "read(0, 0)", -2147483648L, "write(0, 0, -2147483649)", 1,
                "read(0, 0)", 2147483647, "write(0, 0, 4294967296)", 1, "read(0, 0)", 0);
        });
        edge("or 64 (3).", () -> {
            run().gives("tray(0, 3, 1)", 1, "write(0, 0, 9223372036854775807)", 1, "read(0, 0)", Long.MAX_VALUE,
                "write(0, 0, -9223372036854775808)", 1, "read(0, 0)", Long.MIN_VALUE).refuses(1, "tray(0, 4, 1)");
        });
    }

    // ---- a BANK as a text

    private static void tokens() {
        edge("A BANK is a TEXT of at most 900 bytes.", () -> {
            Run x = run().withBank(" ".repeat(885) + CORNER).gives("told(0)", 1);
            x.feed(" ".repeat(900));
            x.gives("feed(0, 0, 0, 0, 0)", -1).refuses(1, "bank(901)").gives("told(0)", 1, "bank(900)", 0, "told(0)", 0);
        });
        edge("TOKENS, as long as they go,", () -> {
            run("corner still4;corner still5;clerk a in 0served1grey2sham3;")
                .gives("corner(1, 0)", 5, "clerk(0, 1)", 1, "clerk(0, 2)", 2, "clerk(0, 3)", 3);
            faulty("cornerstill 1;", 2, 0);
            faulty("corner still 12;", 4, 13);
            faulty("corner still 1 2;", 2, 15);
            faulty("o dds 1;", 2, 0);
        });
        edge("between them blanks (10, 32):", () -> {
            run("\n \n\ncorner\nstill\n\n 4 \n;  \n").gives("told(0)", 1, "corner(0, 0)", 4);
            for (int one : new int[] {0, 1, 7, 8, 9, 11, 12, 13, 14, 31, 33, 127, 128, 138, 160, 255}) {
                faulty("corner" + chars(one) + "still 4;", 1, 6);
            }
        });
        edge("WORDS (small letters),", () -> {
            for (char letter = 'a'; letter <= 'z'; letter++) taken(CORNER + "clerk " + letter + " in 0;");
            for (int one : new int[] {'@', 'A', 'O', 'Z', '[', '_', '`', '{', 'a' + 128, 'z' + 128}) {
                faulty(chars(one) + "dds 1;", 1, 0);
            }
            faulty("oDds 1;", 2, 0);
        });
        edge("NUMBERS (1 to 4 digits),", () -> {
            run("cash 0;").gives("told(5)", 0);
            run("cash 0012;").gives("told(5)", 12);
            run("cash 9876;").gives("told(5)", 9876);
            run("cash 1034;").gives("told(5)", 1034);
            run("cash 25;").gives("told(5)", 25);
            faulty("cash 00012;", 1, 5);
            for (int one : new int[] {'/', ':', '-', '+', '.', ',', '0' + 128}) faulty("cash " + chars(one) + "1;", 1, 5);
        });
        edge("SIGNS ; < > =", () -> {
            faulty("<", 2, 0);
            faulty(">", 2, 0);
            faulty("=", 2, 0);
            faulty(";", 2, 0);
            for (int one : new int[] {':', '?', '!', '&', '(', ')', '*', '^', '|', '~', '#', ';' + 128}) {
                faulty(chars(one), 1, 0);
            }
        });
        edge("BANK: {PART}.", () -> {
            run("").gives("told(0)", 0, "told(1)", 0, "told(2)", 0, "told(3)", 0);
            run("client sum 2 nerve 3;cash 5;rank at 3 pay 1;corner still 2;odds 3;clerk a in 0;corner still 1;client sum 4 nerve 5;")
                .gives("told(0)", 2, "told(1)", 1, "told(2)", 1, "told(3)", 2, "told(4)", 3, "told(5)", 5);
            for (String word : "at pay in still served grey sham sum nerve year move end stop zzz 7 ; = odd oddss".split(" ")) {
                faulty(word + " 1;", 2, 0);
                faulty("odds 1;" + word, 2, 7);
            }
        });
    }

    private static void parts() {
        edge("PART: odds NUMBER ;", () -> {
            run("odds 3;").gives("told(4)", 3);
            everyToken("", "", "odds 3 ;", false);
        });
        edge("or cash NUMBER ;", () -> {
            run("cash 3;").gives("told(5)", 3);
            everyToken("", "", "cash 3 ;", false);
        });
        edge("or corner still NUMBER ;", () -> {
            run("corner still 3;").gives("corner(0, 0)", 3);
            everyToken("", "", "corner still 3 ;", false);
        });
        edge("or rank at NUMBER pay NUMBER ;", () -> {
            run("rank at 3 pay 4;").gives("rank(0, 0)", 3, "rank(0, 1)", 4);
            everyToken("", "", "rank at 3 pay 4 ;", false);
        });
        edge("or clerk NAME in NUMBER [served NUMBER] [grey NUMBER] [sham NUMBER] ;", () -> {
            run(TWO + "clerk ann in 1 served 2 grey 3 sham 4;")
                .gives("clerk(0, 0)", 1, "clerk(0, 1)", 2, "clerk(0, 2)", 3, "clerk(0, 3)", 4);
            everyToken("", TWO, "clerk a in 1 ;", false);
            everyToken("", TWO, "clerk a in 1 served 2 grey 3 sham 4 ;", false);
            everyToken("", TWO, "clerk a in 1 served 2 ;", false);
            everyToken("", TWO, "clerk a in 1 grey 2 ;", false);
            everyToken("", TWO, "clerk a in 1 sham 2 ;", false);
        });
        edge("or client sum NUMBER nerve NUMBER ;", () -> {
            run("client sum 3 nerve 4;").gives("client(0, 0)", 3, "client(0, 1)", 4);
            everyToken("", "", "client sum 3 nerve 4 ;", false);
        });
        edge("({ } any number of times, [ ] perhaps.)", () -> {
            for (int set = 0; set < 8; set++) {
                String clerk = CORNER + "clerk a in 0" + ((set & 1) != 0 ? " served 2" : "") + ((set & 2) != 0 ? " grey 3" : "")
                    + ((set & 4) != 0 ? " sham 4" : "") + ";";
                run(clerk).gives("clerk(0, 1)", (set & 1) * 2, "clerk(0, 2)", (set & 2) / 2 * 3, "clerk(0, 3)", (set & 4) / 4 * 4);
            }
            faulty(CORNER + "clerk a in 0 served 1 served 1;", 2, 37);
            faulty(CORNER + "clerk a in 0 grey 1 served 1;", 2, 35);
            faulty(CORNER + "clerk a in 0 grey 1 grey 1;", 2, 35);
            faulty(CORNER + "clerk a in 0 sham 1 served 1;", 2, 35);
            faulty(CORNER + "clerk a in 0 sham 1 grey 1;", 2, 35);
            faulty(CORNER + "clerk a in 0 sham 1 sham 1;", 2, 35);
        });
    }

    private static void names() {
        edge("NAME: a WORD of 1 to 8 letters", () -> {
            taken(CORNER + "clerk z in 0;", CORNER + "clerk abcdefgh in 0;");
            faulty(CORNER + "clerk abcdefghi in 0;", 2, 21);
            faulty(CORNER + "clerk " + "z".repeat(40) + " in 0;", 2, 21);
        });
        edge("that is none of " + WORDS + ".", () -> {
            for (String word : WORDS.split(", ")) {
                faulty(CORNER + "clerk " + word + " in 0;", 2, 21);
                if (word.length() < 8) taken(CORNER + "clerk " + word + "x in 0;", CORNER + "clerk x" + word + " in 0;");
                if (!word.equals("looks")) taken(CORNER + "clerk " + word.substring(0, word.length() - 1) + " in 0;");
            }
        });
        edge("No two CLERKS have one NAME.", () -> {
            faulty(TWO + "clerk ann in 0;clerk ann in 1;", 3, 51);
            faulty(SEVEN + "clerk ann in 0;clerk bob in 1;clerk bob in 2;", 3, 141);
            faulty(SEVEN + "clerk a in 0;clerk b in 1;clerk c in 2;clerk d in 3;clerk e in 4;clerk e in 5;", 3, 176);
            faulty(TWO + "clerk abcdefgh in 0;clerk abcdefgh in 1;", 3, 56);
            taken(TWO + "clerk abcdefgh in 0;clerk abcdefgi in 1;", TWO + "clerk bbcdefgh in 0;clerk abcdefgh in 1;",
                TWO + "clerk a in 0;clerk aa in 1;", TWO + "clerk ab in 0;clerk ba in 1;", TWO + "clerk z in 0;clerk zz in 1;");
        });
    }

    private static void numbersOfParts() {
        edge("ODDS (0 to 16; 4 without).", () -> {
            run("odds 0;").gives("told(4)", 0);
            run("odds 16;").gives("told(4)", 16);
            run("odds 9;").withBank("cash 1;").gives("told(4)", 4);
            faulty("odds 17;", 4, 5);
        });
        edge("CASH (0 to 9,999; 100 without).", () -> {
            run("cash 0;").gives("told(5)", 0);
            run("cash 9999;").gives("told(5)", 9999);
            run("cash 9;").withBank("odds 1;").gives("told(5)", 100);
        });
        edge("CORNERS, at most 7:", () -> {
            run(SEVEN).gives("told(0)", 7);
            faulty(SEVEN + CORNER, 6, 105);
        });
        edge("STILL (0 to 9).", () -> {
            run("corner still 0;corner still 9;").gives("corner(0, 0)", 0, "corner(1, 0)", 9);
            faulty("corner still 10;", 4, 13);
        });
        edge("RANKS, at most 5:", () -> {
            run(FIVE_RANKS).gives("told(1)", 5);
            faulty(FIVE_RANKS + "rank at 6 pay 1;", 6, 80);
        });
        edge("AT more than the one told ahead, if there is one (0 to 99),", () -> {
            run("rank at 0 pay 1;rank at 1 pay 1;rank at 99 pay 1;").gives("rank(0, 0)", 0, "rank(1, 0)", 1, "rank(2, 0)", 99);
            faulty("rank at 100 pay 1;", 4, 8);
            faulty("rank at 0 pay 1;rank at 0 pay 1;", 4, 24);
            faulty("rank at 7 pay 1;rank at 7 pay 1;", 4, 24);
            faulty("rank at 7 pay 1;rank at 6 pay 1;", 4, 24);
            faulty("rank at 7 pay 1;rank at 9 pay 1;rank at 8 pay 1;", 4, 40);
        });
        edge("PAY (0 to 50).", () -> {
            run("rank at 0 pay 0;rank at 1 pay 50;").gives("rank(0, 1)", 0, "rank(1, 1)", 50);
            faulty("rank at 1 pay 51;", 4, 14);
        });
        edge("CLERKS, at most 6:", () -> {
            run(SIX_CLERKS).gives("told(2)", 6);
            faulty(SIX_CLERKS + "clerk g in 6;", 6, 183);
        });
        edge("in a CORNER (one in each),", () -> {
            run(SEVEN + "clerk a in 6;clerk b in 0;").gives("clerk(0, 0)", 6, "clerk(1, 0)", 0);
            faulty(TWO + "clerk a in 1;clerk b in 1;", 5, 54);
            faulty(TWO + "clerk a in 2;", 4, 41);
        });
        edge("SERVED YEARS (0 to 999; 0 without),", () -> {
            run(TWO + "clerk a in 0 served 0;clerk b in 1 served 999;").gives("clerk(0, 1)", 0, "clerk(1, 1)", 999);
            run(CORNER + "clerk a in 0 served 7 grey 7 sham 7;").withBank(CORNER + "clerk a in 0 grey 7 sham 7;")
                .gives("clerk(0, 1)", 0);
            faulty(CORNER + "clerk a in 0 served 1000;", 4, 35);
        });
        edge("GREY (0 to 99; 0 without),", () -> {
            run(TWO + "clerk a in 0 grey 0;clerk b in 1 grey 99;").gives("clerk(0, 2)", 0, "clerk(1, 2)", 99);
            run(CORNER + "clerk a in 0 served 7 grey 7 sham 7;").withBank(CORNER + "clerk a in 0 served 7 sham 7;")
                .gives("clerk(0, 2)", 0);
            faulty(CORNER + "clerk a in 0 grey 100;", 4, 33);
        });
        edge("SHAM (0 to 99; 0 without).", () -> {
            run(TWO + "clerk a in 0 sham 0;clerk b in 1 sham 99;").gives("clerk(0, 3)", 0, "clerk(1, 3)", 99);
            run(CORNER + "clerk a in 0 served 7 grey 7 sham 7;").withBank(CORNER + "clerk a in 0 served 7 grey 7;")
                .gives("clerk(0, 3)", 0);
            faulty(CORNER + "clerk a in 0 sham 100;", 4, 33);
        });
        edge("CLIENTS, at most 8:", () -> {
            run(EIGHT_CLIENTS).gives("told(3)", 8);
            faulty(EIGHT_CLIENTS + "client sum 1 nerve 0;", 6, 168);
        });
        edge("a SUM (1 to 99),", () -> {
            run("client sum 1 nerve 0;client sum 99 nerve 0;").gives("client(0, 0)", 1, "client(1, 0)", 99);
            faulty("client sum 0 nerve 0;", 4, 11);
            faulty("client sum 100 nerve 0;", 4, 11);
        });
        edge("NERVE (0 to 999).", () -> {
            run("client sum 1 nerve 0;client sum 1 nerve 999;").gives("client(0, 1)", 0, "client(1, 1)", 999);
            faulty("client sum 1 nerve 1000;", 4, 19);
        });
        edge("All are numbered as they stand.", () -> {
            run("corner still 3;client sum 8 nerve 1;corner still 2;rank at 1 pay 9;clerk z in 1;rank at 2 pay 8;clerk a in 0;"
                + "client sum 7 nerve 2;").gives("corner(0, 0)", 3, "corner(1, 0)", 2, "client(0, 0)", 8, "client(1, 0)", 7,
                "rank(0, 1)", 9, "rank(1, 1)", 8, "clerk(0, 0)", 1, "clerk(1, 0)", 0);
        });
    }

    // ---- FAULTS of a BANK

    private static void faults() {
        edge("FAULTS, the first along the text", () -> {
            faulty("odds 17;corner 3;#", 4, 5);
            faulty("corner 3;odds 17;#", 2, 7);
            faulty("#odds 17;corner 3;", 1, 0);
            faulty("odds 1;odds 17;#", 5, 7);
            faulty(SEVEN + "corner # 3;", 6, 105);
            faulty("odds 17", 4, 5);
            faulty("odds 99 99999;", 4, 5);
            faulty("zzz 99999", 2, 0);
        });
        edge("(of one TOKEN the least kind):", () -> {
            // 1 ahead of 2 and 4, 2 ahead of 3, 4, 5 and 6.
            faulty("12345", 1, 0);
            faulty("odds 12345;", 1, 5);
            faulty(CORNER + "clerk a in a;", 2, 26);
            faulty(CORNER + "clerk a 99", 2, 23);
            faulty("odds 1;cash odds", 2, 12);
            faulty("cash 1;odds cash", 2, 12);
            faulty(SEVEN + "odds corner", 2, 110);
            faulty(SIX_CLERKS + "odds clerk", 2, 188);
            faulty(EIGHT_CLIENTS + "odds client", 2, 173);
            faulty(FIVE_RANKS + "odds rank", 2, 85);
            faulty(TWO + "clerk a in 0;clerk odds in 0;", 2, 49);
        });
        edge("1 no TOKEN begins so", () -> {
            for (int one = 0; one < 256; one++) {
                boolean isBlank = one == 10 || one == 32;
                boolean begins = one >= 'a' && one <= 'z' || one >= '0' && one <= '9' || ";<>=".indexOf(one) >= 0;
                if (one != ';') faulty("cash 1 " + chars(one), begins || isBlank ? 2 : 1, isBlank ? 8 : 7);
            }
        });
        edge("(a NUMBER of 5 digits and more: at its first).", () -> {
            faulty("cash 10000;", 1, 5);
            faulty("cash 00000;", 1, 5);
            faulty("cash  " + "1".repeat(60), 1, 6);
            faulty("odds 1; 12345", 1, 8);
        });
        edge("2 it can't stand there", () -> {
            faulty("odds 1; ; odds 2;", 2, 8);
            faulty("odds odds", 2, 5);
            faulty("rank at 1 at", 2, 10);
            faulty("client nerve", 2, 7);
            faulty("corner still 1 <", 2, 15);
        });
        edge("(the end: the text's length;", () -> {
            faulty("odds", 2, 4);
            faulty("odds 1", 2, 6);
            faulty("odds 1 \n ", 2, 9);
            faulty("corner ", 2, 7);
            Run x = run();
            x.feed("odds 1;odds 2;");
            x.refuses(9, "bank(6)").gives("fault(0)", 2, "fault(1)", 6);
            x.feed("odds 1;");
            x.gives("bank(7)", 0);
        });
        edge("a WORD of 9 letters and more where a NAME must stand).", () -> {
            faulty(CORNER + "clerk ninelette in 0;", 2, 21);
            faulty(CORNER + "clerk tenletters in 0;", 2, 21);
        });
        edge("3 a new NAME that is taken.", () -> {
            faulty(TWO + "clerk ann in 0;clerk bob in 1;clerk ann in 7;", 3, 66);
            faulty(TWO + "clerk ann in 0;clerk  ann", 3, 52);
        });
        edge("4 a NUMBER that can't be", () -> {
            faulty("cash 1;odds 18;", 4, 12);
            faulty("rank at 5 pay 99;", 4, 14);
        });
        edge("(no such CORNER told ahead,", () -> {
            faulty("clerk a in 0;" + CORNER, 4, 11);
            faulty(CORNER + "clerk a in 1;" + CORNER, 4, 26);
            taken(TWO + "clerk a in 1;");
        });
        edge("a RANK AT no more, too).", () -> {
            faulty("rank at 20 pay 1;rank at 20", 4, 25);
            faulty("rank at 20 pay 1;rank at 19", 4, 25);
            taken("rank at 20 pay 1;rank at 21 pay 1;");
        });
        edge("5 odds, cash told already (at that WORD);", () -> {
            faulty("odds 1;odds 1;", 5, 7);
            faulty("odds 1;cash 2;odds", 5, 14);
            faulty("cash 1;cash 1;", 5, 7);
            faulty("cash 1;odds 1; cash 12345", 5, 15);
        });
        edge("a CORNER in which one sits (at that NUMBER).", () -> {
            faulty(TWO + "clerk a in 0;clerk b in 0;", 5, 54);
            faulty(TWO + "clerk a in 1;clerk b in 0;clerk c in 1 grey 100;", 5, 67);
        });
        edge("6 an eighth corner,", () -> faulty(SEVEN + " corner", 6, 106));
        edge("a sixth rank,", () -> faulty(FIVE_RANKS + " rank at 1", 6, 81));
        edge("a seventh clerk,", () -> faulty(SIX_CLERKS + " clerk a in 0", 6, 184));
        edge("a ninth client (at that WORD).", () -> faulty(EIGHT_CLIENTS + " client sum 0", 6, 169));
    }

    private static void takenInPlace() {
        String old = "odds 9;cash 9;corner still 3;corner still 4;rank at 0 pay 5;clerk ann in 1 served 4 grey 20 sham 30;"
            + "client sum 3 nerve 4;";
        edge("A BANK that is taken is there in place of that ahead;", () -> {
            run(old).withBank("").gives("told(0)", 0, "told(1)", 0, "told(2)", 0, "told(3)", 0, "told(4)", 4, "told(5)", 100);
            run(old).withBank(CORNER + "clerk bob in 0;").gives("told(0)", 1, "told(1)", 0, "told(2)", 1, "told(3)", 0,
                "clerk(0, 0)", 0, "clerk(0, 1)", 0, "clerk(0, 2)", 0, "clerk(0, 3)", 0, "corner(0, 0)", 1);
        });
        edge("it is YEAR 0,", () -> {
            run(old).does("year(9)").gives("told(6)", 9).withBank(old).gives("told(6)", 0).does("year(9)", "cashIn(40)", "unpaidIn()")
                .withBank(old).gives("told(6)", 0);
        });
        edge("nobody is UNPAID, PAID anything;", () -> {
            run(old).does("year(9)").gives("told(7)", 8, "told(8)", 5).withBank(old).gives("told(7)", 0, "told(8)", 0,
                "clerk(0, 5)", 0, "clerk(0, 6)", 0);
            String two = old + "clerk bob in 0 grey 5;";
            run(two).does("year(9)", "unpaidIn()", "cashIn(40)").withBank(two).gives("told(7)", 0, "told(8)", 0, "clerk(1, 5)", 0,
                "clerk(1, 6)", 0).does("year(9)", "cashIn(40)").withBank(old).gives("told(7)", 0, "told(8)", 0, "told(9)", 20,
                "hire(0)", 1, "clerk(1, 5)", 0, "clerk(1, 6)", 0, "told(7)", 0, "told(8)", 0);
        });
        edge("there are no DECADES.", () -> {
            run(old, "run;").withBank(old).refuses(6, "live(0)", "mean(0, 1)");
            run(old, "run;").withBank("").refuses(6, "live(0)");
        });
    }

    // ---- DECADES as a text

    private static void decades() {
        edge("DECADES are a TEXT of at most 300 bytes,", () -> {
            Run x = run(PAIR);
            x.feed(" ".repeat(296) + "run;" + " ".repeat(20));
            x.refuses(1, "decades(301)").refuses(6, "live(0)").gives("decades(300)", 1, "live(0)", 1);
        });
        edge("of such TOKENS", () -> {
            takenDecades(PAIR, "\nyear\n2 ;when cash<5;end;when cash>5;end;when cash=5;end;");
            for (int one : new int[] {0, 9, 13, '!', 'Y', ':'}) faultyDecades(PAIR, "year 2;" + chars(one), 1, 7);
        });
        edge("(none at first).", () -> run().refuses(6, "live(0)", "mean(0, 1)"));
        edge("DECADES: {STEP}.", () -> {
            run(PAIR, "run;dust ann;run;").gives("live(0)", 3);
            // Any number of times: none will do, and these are DECADES like others.
            for (String none : new String[] {"", " ", "\n \n"}) {
                run(PAIR.replace("in 0", "in 0 grey 7"), "run;").withDecades(none).gives("fault(0)", 0, "live(0)", 0, "lived(0)", 0,
                    "lived(4)", 0).givesFraction("mean(0, 3)", 7, 1);
            }
            for (String word : "odds cash corner still rank at pay clerk in served grey sham client sum nerve looks zzz ann 7 ; <"
                    .split(" ")) {
                faultyDecades(PAIR, word, 2, 0);
                faultyDecades(PAIR, "run;" + word, 2, 4);
            }
        });
        steps();
        edge("TEST: rank NAME COMPARES NUMBER,", () -> {
            takenDecades(PAIR, "when rank ann > 3;end;");
            everyToken(PAIR.replace("ann", "a"), "", "when rank a > 3 ;", true);
        });
        edge("or looks NAME COMPARES NUMBER,", () -> {
            takenDecades(PAIR, "when looks bob < 3;end;");
            everyToken(PAIR.replace("ann", "a"), "", "when looks a = 3 ;", true);
        });
        edge("or cash COMPARES NUMBER.", () -> {
            takenDecades(PAIR, "when cash = 3;end;");
            everyToken(PAIR.replace("ann", "a"), "", "when cash < 3 ;", true);
            faultyDecades(PAIR, "when odds < 3;", 2, 5);
            faultyDecades(PAIR, "when ann < 3;", 2, 5);
            faultyDecades(PAIR, "when look ann < 3;", 2, 5);
        });
        edge("COMPARES: < or > or =", () -> {
            for (String test : "<6 >4 =5".split(" ")) run("cash 5;", "when cash" + test + ";run;end;").gives("live(0)", 2);
            for (String test : "<5 >5 =4 =6 <4 >6".split(" ")) run("cash 5;", "when cash" + test + ";run;end;").gives("live(0)", 1);
            faultyDecades(PAIR, "when cash < = 3;", 2, 12);
            faultyDecades(PAIR, "when cash ! 3;", 1, 10);
        });
    }

    private static void steps() {
        String a = PAIR.replace("ann", "a").replace("bob", "b");
        edge("STEP: year NUMBER ;", () -> everyToken(a, "", "year 3 ;", true));
        edge("or move NAME NUMBER ;", () -> everyToken(a, "", "move a 1 ;", true));
        edge("or swap NAME NAME ;", () -> everyToken(a, "", "swap a b ;", true));
        edge("or fan NAME NUMBER ;", () -> everyToken(a, "", "fan a 3 ;", true));
        edge("or dust NAME ;", () -> everyToken(a, "", "dust a ;", true));
        edge("or look NAME ;", () -> everyToken(a, "", "look a ;", true));
        edge("or run ;", () -> everyToken(a, "", "run ;", true));
        edge("or any ;", () -> everyToken(a, "", "any ;", true));
        edge("or when TEST ; {STEP} end ;", () -> {
            takenDecades(a, "when cash=1;end;", "when cash=1;run;any;end;", "when cash=1;when cash=1;end;end;");
            everyToken(a, "when cash = 1 ; run ; ", "end ;", true);
            faultyDecades(a, "when cash = 1 ; run ;", 2, 21);
            faultyDecades(a, "when cash = 1 ; odds", 2, 16);
        });
        edge("or loop NUMBER ; {STEP} end ;", () -> {
            takenDecades(a, "loop 1;end;", "loop 1;run;any;end;", "loop 1;loop 1;end;end;");
            everyToken(a, "", "loop 3 ;", true);
            everyToken(a, "loop 3 ; run ; ", "end ;", true);
            faultyDecades(a, "loop 3 ; run ;", 2, 14);
        });
        edge("or stop ;", () -> everyToken(a, "", "stop ;", true));
    }

    private static void faultsOfDecades() {
        edge("FAULTS: 1, 2 as above", () -> {
            faultyDecades(PAIR, "year 12345;", 1, 5);
            faultyDecades(PAIR, "run;year  00001;", 1, 10);
            faultyDecades(PAIR, "Run;", 1, 0);
            faultyDecades(PAIR, "year 3", 2, 6);
            faultyDecades(PAIR, "year 3 \n", 2, 8);
            faultyDecades(PAIR, "dust ninelette;", 2, 5);
            faultyDecades(PAIR, "dust year;", 2, 5);
            faultyDecades(PAIR, "year 0;#", 4, 5);
            faultyDecades(PAIR, "dust zoe # year 0;", 3, 5);
        });
        edge("(an end without a beginning;", () -> {
            faultyDecades(PAIR, "end;", 2, 0);
            faultyDecades(PAIR, "run;end;", 2, 4);
            faultyDecades(PAIR, "loop 1;end;end;", 2, 11);
            faultyDecades(PAIR, "when cash=1;loop 1;end;end; end;", 2, 28);
        });
        edge("the text's end ahead of an end: 2).", () -> {
            faultyDecades(PAIR, "loop 1;", 2, 7);
            faultyDecades(PAIR, "loop 1;run; ", 2, 12);
            faultyDecades(PAIR, "when cash=1;loop 1;end;", 2, 23);
            faultyDecades(PAIR, "loop 1;loop 1;loop 1;end;end;", 2, 29);
        });
        edge("3 a NAME that is no CLERK.", () -> {
            for (String step : "move zoe 1;,fan zoe 3;,dust zoe;,look zoe;,swap zoe ann;".split(",")) {
                faultyDecades(PAIR, step, 3, step.indexOf("zoe"));
            }
            faultyDecades(PAIR, "swap ann zoe;", 3, 9);
            faultyDecades(PAIR, "when rank zoe = 1;", 3, 10);
            faultyDecades(PAIR, "when looks zoe = 1;", 3, 11);
            faultyDecades(PAIR, "dust an;", 3, 5);
            faultyDecades(PAIR, "dust anna;", 3, 5);
            takenDecades(PAIR, "dust ann;dust bob;");
            // Who was hired has no NAME.
            for (char name = 'a'; name <= 'z'; name++) {
                Run x = run(PAIR + CORNER).gives("hire(2)", 2);
                x.feed("dust " + name + ";");
                x.refuses(9, "decades(7)").gives("fault(0)", 3, "fault(1)", 5);
            }
        });
        edge("4 a NUMBER that can't be", () -> {
            faultyDecades(PAIR, "year 0;", 4, 5);
            faultyDecades(PAIR, "run;loop 100;", 4, 9);
        });
        edge("(no such CORNER, too).", () -> {
            faultyDecades(PAIR, "move ann 2;", 4, 9);
            faultyDecades(SEVEN + "clerk ann in 0;", "move ann 7;", 4, 9);
            takenDecades(PAIR, "move ann 1;");
            takenDecades(SEVEN + "clerk ann in 0;", "move ann 6;");
        });
        edge("6 a 31st STEP (at its WORD;", () -> {
            takenDecades(PAIR, "run;".repeat(30));
            faultyDecades(PAIR, "run;".repeat(30) + " year 0;", 6, 121);
            faultyDecades(PAIR, "run;".repeat(29) + "loop 1;run;end;", 6, 123);
            faultyDecades(PAIR, "run;".repeat(30) + "odds", 2, 120);
            faultyDecades(PAIR, "run;".repeat(30) + "end", 2, 120);
            // Of one TOKEN the least kind: 6 ahead of 7.
            faultyDecades(PAIR, "loop 1;loop 1;loop 1;" + "run;".repeat(27) + "loop", 6, 129);
        });
        edge("end is none).", () -> {
            run(PAIR, "loop 1;end;".repeat(26) + "run;").gives("live(0)", 27);
            Run x = run(PAIR);
            x.feed("run;".repeat(27) + "loop 1;loop 1;loop 1;end;end;end;");
            x.gives("decades(" + (108 + 33) + ")", 30, "live(0)", 30);
        });
        edge("7 a when, loop within three others (at its WORD).", () -> {
            takenDecades(PAIR, "loop 1;when cash=1;loop 1;run;end;end;end;", "loop 1;loop 1;loop 1;end;loop 1;end;end;end;");
            faultyDecades(PAIR, "loop 1;when cash=1;loop 1; loop 1;", 7, 27);
            faultyDecades(PAIR, "loop 1;when cash=1;loop 1;when zzz", 7, 26);
            faultyDecades(PAIR, "when cash=1;when cash=1;when cash=1;when", 7, 36);
            faultyDecades(PAIR, "loop 1;loop 1;loop 1;end;loop 1;run;loop 1;", 7, 36);
        });
    }

    public static void main(String[] args) {
        terms("TRAYS 0 to 3", "==== 2.");
        trays();
        tokens();
        parts();
        names();
        numbersOfParts();
        faults();
        takenInPlace();
        terms("DECADES are a TEXT", "year: so many");
        decades();
        faultsOfDecades();
        tellAndExit();
    }
}
