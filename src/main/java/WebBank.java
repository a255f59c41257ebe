/** A bank in which cobwebs are the date; the document ../shared/DOC.md says what each call answers. */
public final class WebBank {
    public static final int NONE = -1;

    private static final int BAD_NUMBER = 1;
    private static final int TRAY_MISSING = 2;
    private static final int NO_PLACE = 3;
    private static final int TOO_MANY = 4;
    private static final int BAD_IN_TRAY = 5;
    private static final int NONE_SUCH = 6;
    private static final int CANNOT_BE = 7;
    private static final int UNLIKE_SORTS = 8;
    private static final int FAULTY = 9;

    private static final int FAULT_TOKEN = 1;
    private static final int FAULT_PLACE = 2;
    private static final int FAULT_NAME = 3;
    private static final int FAULT_NUMBER = 4;
    private static final int FAULT_AGAIN = 5;
    private static final int FAULT_MANY = 6;
    private static final int FAULT_DEEP = 7;

    private static final int MOST_CORNERS = 7;
    private static final int MOST_RANKS = 5;
    private static final int MOST_CLERKS = 6;
    private static final int MOST_CLIENTS = 8;
    private static final int MOST_STILL = 9;
    private static final int MOST_GREY = 99;
    private static final int MOST_PAY = 50;
    private static final int MOST_SUM = 99;
    private static final int MOST_NERVE = 999;
    private static final int MOST_SERVED = 999;
    private static final int MOST_CASH = 9999;
    private static final int MOST_ODDS = 16;
    private static final int LAST_YEAR = 9999;
    private static final int MOST_FAN = 50;
    private static final int MOST_YEARS_AHEAD = 40;
    private static final int MOST_YEARS_SOUGHT = 99;

    private static final int MOST_TRAYS = 4;
    private static final int MOST_IN_TRAY = 60;
    private static final int MOST_TWOS = 20;
    private static final int MOST_ASKED = 20;
    private static final int MOST_BYTES = 900;
    private static final int MOST_TOKENS = MOST_BYTES + 1;
    private static final int MOST_PLAN_BYTES = 300;
    private static final int MOST_STEPS = 30;
    private static final int MOST_DEPTH = 3;
    private static final int MOST_LIVED = 300;
    private static final int MOST_MARKS = 3;
    private static final int MOST_TURNS = 4;
    private static final int MOST_SEEDS = 20;
    private static final int LAST_SEED = 9999;
    private static final int LONGEST_NAME = 8;
    private static final int LONGEST_NUMBER = 4;
    private static final int FAR = 1000000;

    /* The words of both texts, each with a blank behind it; their numbers below are their places here. */
    private static final String WORDS = "odds cash corner still rank at pay clerk in served grey sham client sum nerve year move swap fan dust look run any when looks loop end stop ";
    private static final int ODDS = 0;
    private static final int CASH = 1;
    private static final int CORNER = 2;
    private static final int STILL = 3;
    private static final int RANK = 4;
    private static final int AT = 5;
    private static final int PAY = 6;
    private static final int CLERK = 7;
    private static final int IN = 8;
    private static final int SERVED = 9;
    private static final int GREY = 10;
    private static final int SHAM = 11;
    private static final int CLIENT = 12;
    private static final int SUM = 13;
    private static final int NERVE = 14;
    private static final int YEAR = 15;
    private static final int MOVE = 16;
    private static final int SWAP = 17;
    private static final int FAN = 18;
    private static final int DUST = 19;
    private static final int LOOK = 20;
    private static final int RUN = 21;
    private static final int ANY = 22;
    private static final int WHEN = 23;
    private static final int LOOKS = 24;
    private static final int LOOP = 25;
    private static final int END = 26;
    private static final int STOP = 27;

    private static final int TOKEN_END = 0;
    private static final int TOKEN_WORD = 1;
    private static final int TOKEN_NAME = 2;
    private static final int TOKEN_NUMBER = 3;
    private static final int TOKEN_SIGN = 4;
    private static final int TOKEN_LONG = 5;
    private static final int TOKEN_BAD = 6;

    private final Trays trays = new Trays();
    private final Text text = new Text();
    private final Bank now = new Bank();
    private final Bank spare = new Bank();
    private final Plan plan = new Plan();
    private final Plan sparePlan = new Plan();
    private final BankReader bankReader = new BankReader(text, spare);
    private final PlanReader planReader = new PlanReader(text, now, sparePlan);
    private final Mark[] kept = new Mark[MOST_MARKS];
    private final Life latest = new Life();
    private final Life trial = new Life();
    private final Seats seats = new Seats();
    private final Game board = new Game();
    private int marks = 0;
    private boolean hasLived = false;
    private int state = 0;
    private long fractionTop = 0;
    private long fractionBottom = 1;

    public WebBank() {
        for (int i = 0; i < MOST_MARKS; i++) {
            kept[i] = new Mark();
        }
    }

    public int status() {
        return state;
    }

    public long top() {
        return fractionTop;
    }

    public long bottom() {
        return fractionBottom;
    }

    // ---- how a call answers

    private int answer(int value) {
        state = 0;
        return value;
    }

    private int refuse(int why) {
        state = why;
        return NONE;
    }

    private int answerOrRefuse(int value, int why) {
        return value == NONE ? refuse(why) : answer(value);
    }

    private boolean grant() {
        state = 0;
        return true;
    }

    private boolean deny(int why) {
        state = why;
        return false;
    }

    private boolean grantFraction(long above, long below) {
        if (above == 0 || below <= 0) {
            fractionTop = 0;
            fractionBottom = 1;
            return grant();
        }
        long divisor = commonDivisor(above, below);
        if (divisor > 0) {
            fractionTop = above / divisor;
            fractionBottom = below / divisor;
        }
        return grant();
    }

    private static long commonDivisor(long a, long b) {
        long large = a;
        long small = b;
        for (int i = 0; i < FAR && small != 0; i++) {
            long rest = large % small;
            large = small;
            small = rest;
        }
        return large;
    }

    private static boolean between(int value, int least, int most) {
        return value >= least && value <= most;
    }

    private boolean isYears(int years) {
        return between(years, 0, MOST_YEARS_AHEAD);
    }

    // ---- TRAYS

    public boolean tray(int tray, int sort, int many) {
        if (!trays.isTray(tray) || !between(sort, 0, 3) || !between(many, 0, MOST_IN_TRAY)) {
            return deny(BAD_NUMBER);
        }
        trays.lay(tray, sort, many);
        return grant();
    }

    public boolean write(int tray, int place, long v) {
        int why = trays.whyNot(tray, place);
        if (why != 0) {
            return deny(why);
        }
        trays.put(tray, place, v);
        return grant();
    }

    public long read(int tray, int place) {
        int why = trays.whyNot(tray, place);
        if (why != 0) {
            return refuse(why);
        }
        state = 0;
        return trays.at(tray, place);
    }

    public boolean pour(int from, int place, int to, int at, int many) {
        if (!trays.isTray(from) || !trays.isTray(to) || place < 0 || at < 0 || many < 0) {
            return deny(BAD_NUMBER);
        }
        if (!trays.isThere(from) || !trays.isThere(to)) {
            return deny(TRAY_MISSING);
        }
        if (!trays.areAlike(from, to)) {
            return deny(UNLIKE_SORTS);
        }
        if (!trays.hasFrom(from, place, many) || !trays.hasFrom(to, at, many)) {
            return deny(NO_PLACE);
        }
        trays.shift(from, place, to, at, many);
        return grant();
    }

    // ---- texts

    public int feed(int a, int b, int c, int d, int e) {
        if (!text.hasRoomFor(20)) {
            return NONE;
        }
        text.append(a);
        text.append(b);
        text.append(c);
        text.append(d);
        text.append(e);
        return text.filled;
    }

    public int bank(int n) {
        if (n < 0 || n > text.filled) {
            return refuse(BAD_NUMBER);
        }
        text.begin(n);
        if (!bankReader.readParts()) {
            return refuse(FAULTY);
        }
        now.copyFrom(spare);
        plan.clear();
        return answer(now.clerks);
    }

    public int decades(int n) {
        if (n < 0 || n > text.filled || n > MOST_PLAN_BYTES) {
            return refuse(BAD_NUMBER);
        }
        text.begin(n);
        if (!planReader.readSteps()) {
            return refuse(FAULTY);
        }
        plan.copyFrom(sparePlan);
        return answer(plan.steps);
    }

    public int fault(int what) {
        if (what == 0) {
            return text.faultKind;
        }
        return what == 1 ? text.faultPlace : NONE;
    }

    public int told(int what) {
        if (!between(what, 0, 10)) {
            return refuse(BAD_NUMBER);
        }
        return answer(toldOf(what));
    }

    private int toldOf(int what) {
        switch (what) {
            case 0: return now.corners;
            case 1: return now.ranks;
            case 2: return now.clerks;
            case 3: return now.clients;
            case 4: return now.odds;
            case 5: return now.cash;
            case 6: return now.year;
            case 7: return now.unpaidOfAll();
            case 8: return now.paidOfAll();
            case 9: return now.greyOfAll();
            default: return now.sumOf((1 << MOST_CLIENTS) - 1);
        }
    }

    public int corner(int corner, int what) {
        if (!now.hasCorner(corner) || !between(what, 0, 1)) {
            return refuse(BAD_NUMBER);
        }
        if (what == 0) {
            return answer(now.still[corner]);
        }
        return answerOrRefuse(now.sitterIn(corner), NONE_SUCH);
    }

    public int rank(int rank, int what) {
        if (!now.hasRank(rank) || !between(what, 0, 2)) {
            return refuse(BAD_NUMBER);
        }
        switch (what) {
            case 0: return answer(now.at[rank]);
            case 1: return answer(now.pay[rank]);
            default: return answer(now.clerksOfRank(rank));
        }
    }

    public int clerk(int clerk, int what) {
        if (!now.hasClerk(clerk) || !between(what, 0, 6)) {
            return refuse(BAD_NUMBER);
        }
        switch (what) {
            case 0: return answer(now.seat[clerk]);
            case 1: return answer(now.served[clerk]);
            case 2: return answer(now.grey[clerk]);
            case 3: return answer(now.sham[clerk]);
            case 4: return answer(now.looksOf(clerk));
            case 5: return answer(now.paid[clerk]);
            default: return answer(now.unpaid[clerk]);
        }
    }

    public int rankOf(int clerk) {
        if (!now.hasClerk(clerk)) {
            return refuse(BAD_NUMBER);
        }
        return answerOrRefuse(now.rankBy(now.looksOf(clerk)), NONE_SUCH);
    }

    public int client(int client, int what) {
        if (!now.hasClient(client) || !between(what, 0, 1)) {
            return refuse(BAD_NUMBER);
        }
        return answer(what == 0 ? now.sum[client] : now.nerve[client]);
    }

    // ---- what is done

    public int year(int years) {
        if (!between(years, 1, 99)) {
            return refuse(BAD_NUMBER);
        }
        return answerOrRefuse(now.passYears(years), TOO_MANY);
    }

    public int move(int clerk, int corner) {
        if (!now.hasClerk(clerk) || !now.hasCorner(corner)) {
            return refuse(BAD_NUMBER);
        }
        return answerOrRefuse(now.seatElsewhere(clerk, corner), CANNOT_BE);
    }

    public int swap(int clerk, int other) {
        if (!areTwo(clerk, other)) {
            return refuse(BAD_NUMBER);
        }
        return answerOrRefuse(now.exchange(clerk, other), CANNOT_BE);
    }

    private boolean areTwo(int clerk, int other) {
        return now.hasClerk(clerk) && now.hasClerk(other) && clerk != other;
    }

    public int fan(int clerk, int much) {
        if (!now.hasClerk(clerk) || !between(much, 1, MOST_FAN)) {
            return refuse(BAD_NUMBER);
        }
        return answerOrRefuse(now.addSham(clerk, much), CANNOT_BE);
    }

    public int dust(int clerk) {
        if (!now.hasClerk(clerk)) {
            return refuse(BAD_NUMBER);
        }
        return answerOrRefuse(now.wipe(clerk), CANNOT_BE);
    }

    public int look(int clerk) {
        if (!now.hasClerk(clerk)) {
            return refuse(BAD_NUMBER);
        }
        return answerOrRefuse(now.exposeSham(clerk), CANNOT_BE);
    }

    public int run() {
        return answerOrRefuse(now.payComing(), CANNOT_BE);
    }

    public int hire(int corner) {
        if (!now.hasCorner(corner)) {
            return refuse(BAD_NUMBER);
        }
        if (now.clerks >= MOST_CLERKS) {
            return refuse(TOO_MANY);
        }
        if (now.sitterIn(corner) != NONE) {
            return refuse(CANNOT_BE);
        }
        return answer(now.addClerk(0, corner));
    }

    public int open(int sum, int nerve) {
        if (!between(sum, 1, MOST_SUM) || !between(nerve, 0, MOST_NERVE)) {
            return refuse(BAD_NUMBER);
        }
        if (now.clients >= MOST_CLIENTS) {
            return refuse(TOO_MANY);
        }
        now.cash = Math.min(MOST_CASH, now.cash + sum);
        return answer(now.addClient(sum, nerve));
    }

    public int calm(int corner, int still) {
        if (!now.hasCorner(corner) || !between(still, 0, MOST_STILL)) {
            return refuse(BAD_NUMBER);
        }
        int before = now.still[corner];
        now.still[corner] = still;
        return answer(before);
    }

    public boolean rule(int what, int much) {
        if (what == 4 && between(much, 0, MOST_ODDS)) {
            now.odds = much;
            return grant();
        }
        if (what == 5 && between(much, 0, MOST_CASH)) {
            now.cash = much;
            return grant();
        }
        return deny(BAD_NUMBER);
    }

    // ---- years ahead

    public int greyIn(int clerk, int years) {
        if (!now.hasClerk(clerk) || !isYears(years)) {
            return refuse(BAD_NUMBER);
        }
        return answer(now.greyStaying(clerk, years));
    }

    public int rankIn(int clerk, int years) {
        if (!now.hasClerk(clerk) || !isYears(years)) {
            return refuse(BAD_NUMBER);
        }
        int looks = looksBy(now.greyStaying(clerk, years), now.sham[clerk]);
        return answerOrRefuse(now.rankBy(looks), NONE_SUCH);
    }

    public int unpaidIn() {
        spare.copyFrom(now);
        int before = spare.unpaidOfAll();
        for (int years = 1; years <= MOST_YEARS_SOUGHT; years++) {
            spare.passYear();
            if (spare.unpaidOfAll() > before) {
                return answer(years);
            }
        }
        return refuse(NONE_SUCH);
    }

    public int cashIn(int years) {
        if (!isYears(years)) {
            return refuse(BAD_NUMBER);
        }
        spare.copyFrom(now);
        for (int i = 0; i < years; i++) {
            spare.passYear();
        }
        return answer(spare.cash);
    }

    // ---- who sits where

    public int seating(int years) {
        if (!isYears(years)) {
            return refuse(BAD_NUMBER);
        }
        return answer(seats.mostGrey(now, years));
    }

    public int seatOf(int years, int clerk) {
        if (!isYears(years) || !now.hasClerk(clerk)) {
            return refuse(BAD_NUMBER);
        }
        return answer(seats.bestSeat(now, years, clerk));
    }

    public int liked(int years) {
        if (!isYears(years)) {
            return refuse(BAD_NUMBER);
        }
        int count = 0;
        for (int one = 0; one < now.clerks; one++) {
            for (int other = one + 1; other < now.clerks; other++) {
                if (isSwapLiked(years, one, other)) {
                    count++;
                }
            }
        }
        return answer(count);
    }

    public int isLiked(int years, int clerk, int other) {
        if (!isYears(years) || !areTwo(clerk, other)) {
            return refuse(BAD_NUMBER);
        }
        return answer(isSwapLiked(years, clerk, other) ? 1 : 0);
    }

    private boolean isSwapLiked(int years, int one, int other) {
        int without = now.greyStaying(one, years) + now.greyStaying(other, years);
        int with = now.greySeated(one, now.seat[other], years) + now.greySeated(other, now.seat[one], years);
        return with > without;
    }

    public int soon(int clerk, int rank) {
        if (!now.hasClerk(clerk) || !now.hasRank(rank)) {
            return refuse(BAD_NUMBER);
        }
        return answerOrRefuse(yearsTill(clerk, soonestCorner(clerk, rank), rank), NONE_SUCH);
    }

    public int soonAt(int clerk, int rank) {
        if (!now.hasClerk(clerk) || !now.hasRank(rank)) {
            return refuse(BAD_NUMBER);
        }
        return answerOrRefuse(soonestCorner(clerk, rank), NONE_SUCH);
    }

    private int soonestCorner(int clerk, int rank) {
        int bestCorner = NONE;
        int bestYears = yearsTill(clerk, now.seat[clerk], rank);
        if (bestYears != NONE) {
            bestCorner = now.seat[clerk];
        }
        for (int corner = 0; corner < now.corners; corner++) {
            if (now.sitterIn(corner) == NONE) {
                int years = yearsTill(clerk, corner, rank);
                if (years != NONE && (bestYears == NONE || years < bestYears)) {
                    bestYears = years;
                    bestCorner = corner;
                }
            }
        }
        return bestCorner;
    }

    private int yearsTill(int clerk, int corner, int rank) {
        if (!now.hasCorner(corner)) {
            return NONE;
        }
        int sham = corner == now.seat[clerk] ? now.sham[clerk] : 0;
        for (int years = 0; years <= MOST_YEARS_SOUGHT; years++) {
            if (looksBy(now.greySeated(clerk, corner, years), sham) >= now.at[rank]) {
                return years;
            }
        }
        return NONE;
    }

    // ---- fans

    public int worth(int clerk, int much, int years) {
        if (!now.hasClerk(clerk) || !between(much, 0, 99) || !isYears(years)) {
            return refuse(BAD_NUMBER);
        }
        int sham = now.sham[clerk];
        int fanned = Math.min(MOST_GREY, sham + much);
        return answer(payOver(clerk, fanned, years) - payOver(clerk, sham, years));
    }

    private int payOver(int clerk, int sham, int years) {
        int all = 0;
        for (int passed = 0; passed < years; passed++) {
            all += now.payBy(looksBy(now.greyStaying(clerk, passed), sham));
        }
        return all;
    }

    public int leastFan(int clerk, int rank) {
        if (!now.hasClerk(clerk) || !now.hasRank(rank)) {
            return refuse(BAD_NUMBER);
        }
        return answer(Math.max(0, now.at[rank] - now.looksOf(clerk)));
    }

    // ---- how still a corner is

    public int fits(int tray, int n) {
        int why = trays.whyNoTwos(tray, n);
        if (why != 0) {
            return refuse(why);
        }
        return answer(Integer.bitCount(trays.fittingStills(tray, n)));
    }

    public int fitsAt(int tray, int n, int k) {
        int why = k < 0 ? BAD_NUMBER : trays.whyNoTwos(tray, n);
        if (why != 0) {
            return refuse(why);
        }
        return answerOrRefuse(memberAt(trays.fittingStills(tray, n), k), NONE_SUCH);
    }

    private static int memberAt(int set, int k) {
        int left = k;
        for (int still = 0; still <= MOST_STILL; still++) {
            if ((set & (1 << still)) != 0) {
                if (left == 0) {
                    return still;
                }
                left--;
            }
        }
        return NONE;
    }

    public int ask(int tray, int n) {
        int why = trays.whyNoTwos(tray, n);
        if (why != 0) {
            return refuse(why);
        }
        int set = trays.fittingStills(tray, n);
        if (Integer.bitCount(set) < 2) {
            return refuse(NONE_SUCH);
        }
        int best = 1;
        for (int years = 2; years <= MOST_ASKED; years++) {
            if (mostAlike(set, years) < mostAlike(set, best)) {
                best = years;
            }
        }
        return answer(best);
    }

    private static int mostAlike(int set, int years) {
        int most = 0;
        for (int still = 0; still <= MOST_STILL; still++) {
            int alike = 0;
            for (int other = 0; other <= MOST_STILL; other++) {
                if ((set & (1 << other)) != 0 && greyGrown(0, other, years) == greyGrown(0, still, years)) {
                    alike++;
                }
            }
            most = Math.max(most, alike);
        }
        return most;
    }

    // ---- runs

    public int comes() {
        return answer(now.comingWithout(0));
    }

    public int comesFor() {
        return answer(now.sumOf(now.comingWithout(0)));
    }

    public int calms() {
        return answer(Integer.bitCount(leastCalmed()));
    }

    public int calmSet() {
        return answer(leastCalmed());
    }

    private int leastCalmed() {
        int all = (1 << now.clients) - 1;
        int best = all;
        for (int set = 0; set <= all; set++) {
            if (Integer.bitCount(set) < Integer.bitCount(best) && now.sumOf(now.comingWithout(set)) <= now.cash) {
                best = set;
            }
        }
        return best;
    }

    // ---- games, odds

    public int game(int rank, int n) {
        if (!now.hasRank(rank) || !between(n, 0, MOST_TURNS)) {
            return refuse(BAD_NUMBER);
        }
        board.prepare(now, now.at[rank], n);
        return answer(board.standing() + gainFrom(board, 0, 0));
    }

    public int who(int rank, int n) {
        if (!now.hasRank(rank) || !between(n, 1, MOST_TURNS)) {
            return refuse(BAD_NUMBER);
        }
        board.prepare(now, now.at[rank], n);
        int best = gainFrom(board, 0, 0);
        for (int clerk = 0; clerk < board.clerks; clerk++) {
            if (board.gainBy(clerk, 0) + gainFrom(board, 1, 1 << clerk) == best) {
                return answer(clerk);
            }
        }
        return refuse(NONE_SUCH);
    }

    /* The turn is the depth: no game has more than MOST_TURNS of them. */
    private static int gainFrom(Game board, int turn, int chosen) {
        if (turn >= board.turns || turn >= MOST_TURNS) {
            return 0;
        }
        int best = gainFrom(board, turn + 1, chosen);
        for (int clerk = 0; clerk < board.clerks; clerk++) {
            if ((chosen & (1 << clerk)) == 0) {
                int gain = board.gainBy(clerk, turn) + gainFrom(board, turn + 1, chosen | (1 << clerk));
                best = Game.isSittersTurn(turn) ? Math.max(best, gain) : Math.min(best, gain);
            }
        }
        return best;
    }

    public boolean shams(int k) {
        if (!between(k, 0, MOST_CLERKS)) {
            return deny(BAD_NUMBER);
        }
        long ways = 0;
        for (int set = 0; set < 1 << now.clerks; set++) {
            if (Integer.bitCount(set) >= k) {
                ways += waysOfShams(Integer.bitCount(set));
            }
        }
        return grantFraction(ways, power(16, now.clerks));
    }

    private long waysOfShams(int many) {
        return power(now.odds, many) * power(16 - now.odds, now.clerks - many);
    }

    private static long power(int base, int times) {
        long all = 1;
        for (int i = 0; i < times; i++) {
            all *= base;
        }
        return all;
    }

    public boolean share(int clerk) {
        if (!now.hasClerk(clerk)) {
            return deny(BAD_NUMBER);
        }
        int all = now.greyOfAll();
        if (all == 0) {
            return deny(NONE_SUCH);
        }
        return grantFraction(now.grey[clerk], all);
    }

    public int copyGrey(int tray) {
        if (!trays.isTray(tray)) {
            return refuse(BAD_NUMBER);
        }
        if (!trays.isThere(tray)) {
            return refuse(TRAY_MISSING);
        }
        if (!trays.hasFrom(tray, 0, now.clerks)) {
            return refuse(NO_PLACE);
        }
        for (int clerk = 0; clerk < now.clerks; clerk++) {
            trays.put(tray, clerk, now.grey[clerk]);
        }
        return answer(now.clerks);
    }

    // ---- DECADES

    public int live(int seed) {
        if (!between(seed, 0, LAST_SEED)) {
            return refuse(BAD_NUMBER);
        }
        if (!plan.isThere) {
            return refuse(NONE_SUCH);
        }
        latest.goThrough(now, plan, seed);
        hasLived = true;
        return answer(latest.steps);
    }

    public int lived(int what) {
        if (!between(what, 0, 4)) {
            return refuse(BAD_NUMBER);
        }
        if (!hasLived) {
            return refuse(NONE_SUCH);
        }
        switch (what) {
            case 0: return answer(latest.missed);
            case 1: return answer(latest.years);
            case 2: return answer(latest.paidToClerks);
            case 3: return answer(latest.paidToClients);
            default: return answer(latest.isCut ? 1 : 0);
        }
    }

    public boolean mean(int seed, int many) {
        if (!between(seed, 0, LAST_SEED) || !between(many, 1, MOST_SEEDS) || seed + many - 1 > LAST_SEED) {
            return deny(BAD_NUMBER);
        }
        if (!plan.isThere) {
            return deny(NONE_SUCH);
        }
        long all = 0;
        for (int i = 0; i < many; i++) {
            spare.copyFrom(now);
            trial.goThrough(spare, plan, seed + i);
            all += spare.greyOfAll();
        }
        return grantFraction(all, many);
    }

    // ---- MARKS

    public int mark() {
        if (marks >= MOST_MARKS) {
            return refuse(TOO_MANY);
        }
        Mark one = kept[marks];
        if (one != null) {
            one.bank.copyFrom(now);
            one.plan.copyFrom(plan);
        }
        marks++;
        return answer(marks);
    }

    public int undo() {
        if (marks <= 0) {
            return refuse(NONE_SUCH);
        }
        marks--;
        Mark one = kept[marks];
        if (one != null) {
            now.copyFrom(one.bank);
            plan.copyFrom(one.plan);
        }
        return answer(marks);
    }

    // ---- what LOOKS and years come to, wherever it is asked

    private static int looksBy(int grey, int sham) {
        return grey + sham < MOST_GREY ? grey + sham : MOST_GREY;
    }

    private static int greyGrown(int grey, int still, int years) {
        int grown = grey + still * years;
        return grown < MOST_GREY ? grown : MOST_GREY;
    }

    /** The BANK as it is at one time, with all that became of it. */
    private static final class Bank {
        int odds;
        int cash;
        int year;
        int corners;
        int ranks;
        int clerks;
        int clients;
        final int[] still = new int[MOST_CORNERS];
        final int[] at = new int[MOST_RANKS];
        final int[] pay = new int[MOST_RANKS];
        final long[] name = new long[MOST_CLERKS];
        final int[] seat = new int[MOST_CLERKS];
        final int[] served = new int[MOST_CLERKS];
        final int[] grey = new int[MOST_CLERKS];
        final int[] sham = new int[MOST_CLERKS];
        final int[] paid = new int[MOST_CLERKS];
        final int[] unpaid = new int[MOST_CLERKS];
        final int[] sum = new int[MOST_CLIENTS];
        final int[] nerve = new int[MOST_CLIENTS];

        Bank() {
            clear();
        }

        void clear() {
            odds = 4;
            cash = 100;
            year = 0;
            corners = 0;
            ranks = 0;
            clerks = 0;
            clients = 0;
        }

        void copyFrom(Bank other) {
            odds = other.odds;
            cash = other.cash;
            year = other.year;
            corners = other.corners;
            ranks = other.ranks;
            clerks = other.clerks;
            clients = other.clients;
            System.arraycopy(other.still, 0, still, 0, MOST_CORNERS);
            System.arraycopy(other.at, 0, at, 0, MOST_RANKS);
            System.arraycopy(other.pay, 0, pay, 0, MOST_RANKS);
            System.arraycopy(other.name, 0, name, 0, MOST_CLERKS);
            System.arraycopy(other.seat, 0, seat, 0, MOST_CLERKS);
            System.arraycopy(other.served, 0, served, 0, MOST_CLERKS);
            System.arraycopy(other.grey, 0, grey, 0, MOST_CLERKS);
            System.arraycopy(other.sham, 0, sham, 0, MOST_CLERKS);
            System.arraycopy(other.paid, 0, paid, 0, MOST_CLERKS);
            System.arraycopy(other.unpaid, 0, unpaid, 0, MOST_CLERKS);
            System.arraycopy(other.sum, 0, sum, 0, MOST_CLIENTS);
            System.arraycopy(other.nerve, 0, nerve, 0, MOST_CLIENTS);
        }

        boolean hasCorner(int corner) {
            return corner >= 0 && corner < corners;
        }

        boolean hasRank(int rank) {
            return rank >= 0 && rank < ranks;
        }

        boolean hasClerk(int clerk) {
            return clerk >= 0 && clerk < clerks;
        }

        boolean hasClient(int client) {
            return client >= 0 && client < clients;
        }

        void addCorner(int howStill) {
            if (corners < MOST_CORNERS) {
                still[corners] = howStill;
                corners++;
            }
        }

        int leastNextAt() {
            return hasRank(ranks - 1) ? at[ranks - 1] + 1 : 0;
        }

        void addRank(int atHowMuch, int howMuchPay) {
            if (ranks < MOST_RANKS) {
                at[ranks] = atHowMuch;
                pay[ranks] = howMuchPay;
                ranks++;
            }
        }

        int addClerk(long newName, int corner) {
            if (clerks >= MOST_CLERKS) {
                return NONE;
            }
            name[clerks] = newName;
            seat[clerks] = corner;
            served[clerks] = 0;
            grey[clerks] = 0;
            sham[clerks] = 0;
            paid[clerks] = 0;
            unpaid[clerks] = 0;
            clerks++;
            return clerks - 1;
        }

        int addClient(int howMuch, int whatNerve) {
            if (clients >= MOST_CLIENTS) {
                return NONE;
            }
            sum[clients] = howMuch;
            nerve[clients] = whatNerve;
            clients++;
            return clients - 1;
        }

        int sitterIn(int corner) {
            for (int clerk = 0; clerk < clerks; clerk++) {
                if (seat[clerk] == corner) {
                    return clerk;
                }
            }
            return NONE;
        }

        /* Who was hired has the name 0, which no word comes to. */
        int clerkNamed(long sought) {
            for (int clerk = 0; clerk < clerks; clerk++) {
                if (name[clerk] == sought) {
                    return clerk;
                }
            }
            return NONE;
        }

        int looksOf(int clerk) {
            return hasClerk(clerk) ? looksBy(grey[clerk], sham[clerk]) : 0;
        }

        int rankBy(int looks) {
            int found = NONE;
            for (int rank = 0; rank < ranks; rank++) {
                if (at[rank] <= looks) {
                    found = rank;
                }
            }
            return found;
        }

        int payBy(int looks) {
            int rank = rankBy(looks);
            return hasRank(rank) ? pay[rank] : 0;
        }

        int clerksOfRank(int rank) {
            int set = 0;
            for (int clerk = 0; clerk < clerks; clerk++) {
                if (rankBy(looksOf(clerk)) == rank) {
                    set |= 1 << clerk;
                }
            }
            return set;
        }

        int greyOfAll() {
            return totalOf(grey);
        }

        int paidOfAll() {
            return totalOf(paid);
        }

        int unpaidOfAll() {
            return totalOf(unpaid);
        }

        private int totalOf(int[] row) {
            int all = 0;
            for (int clerk = 0; clerk < clerks && clerk < row.length; clerk++) {
                all += row[clerk];
            }
            return all;
        }

        int greyStaying(int clerk, int years) {
            if (!hasClerk(clerk) || !hasCorner(seat[clerk])) {
                return 0;
            }
            return greyGrown(grey[clerk], still[seat[clerk]], years);
        }

        /* As if he came to that corner now; who sits there already has not moved and loses nothing. */
        int greySeated(int clerk, int corner, int years) {
            if (!hasClerk(clerk) || !hasCorner(corner)) {
                return 0;
            }
            int left = seat[clerk] == corner ? grey[clerk] : grey[clerk] / 2;
            return greyGrown(left, still[corner], years);
        }

        int passYears(int years) {
            if (year + years > LAST_YEAR) {
                return NONE;
            }
            int all = 0;
            for (int i = 0; i < years; i++) {
                all += passYear();
            }
            return all;
        }

        int passYear() {
            int all = 0;
            for (int clerk = 0; clerk < clerks; clerk++) {
                int due = payBy(looksOf(clerk));
                if (due <= cash) {
                    cash -= due;
                    paid[clerk] += due;
                    all += due;
                } else {
                    unpaid[clerk]++;
                }
                served[clerk] = Math.min(MOST_SERVED, served[clerk] + 1);
                grey[clerk] = greyStaying(clerk, 1);
            }
            year++;
            return all;
        }

        int seatElsewhere(int clerk, int corner) {
            if (!hasClerk(clerk) || !hasCorner(corner) || sitterIn(corner) != NONE) {
                return NONE;
            }
            seat[clerk] = corner;
            loseHalf(clerk);
            return grey[clerk];
        }

        int exchange(int clerk, int other) {
            if (!hasClerk(clerk) || !hasClerk(other) || clerk == other) {
                return NONE;
            }
            int corner = seat[clerk];
            seat[clerk] = seat[other];
            seat[other] = corner;
            loseHalf(clerk);
            loseHalf(other);
            return grey[clerk] + grey[other];
        }

        private void loseHalf(int clerk) {
            if (hasClerk(clerk)) {
                grey[clerk] = grey[clerk] / 2;
                sham[clerk] = 0;
            }
        }

        int addSham(int clerk, int much) {
            if (!hasClerk(clerk) || sham[clerk] >= MOST_GREY) {
                return NONE;
            }
            sham[clerk] = Math.min(MOST_GREY, sham[clerk] + much);
            return sham[clerk];
        }

        int wipe(int clerk) {
            if (!hasClerk(clerk) || grey[clerk] + sham[clerk] == 0) {
                return NONE;
            }
            int gone = grey[clerk] + sham[clerk];
            grey[clerk] = 0;
            sham[clerk] = 0;
            return gone;
        }

        int exposeSham(int clerk) {
            if (!hasClerk(clerk) || sham[clerk] == 0) {
                return NONE;
            }
            int gone = sham[clerk];
            sham[clerk] = 0;
            return gone;
        }

        /* Who comes once stays: the sums of the others only grow. So a round for each client is enough. */
        int comingWithout(int calmed) {
            int set = 0;
            int sums = 0;
            boolean isGrowing = true;
            for (int round = 0; round < clients && isGrowing; round++) {
                isGrowing = false;
                for (int client = 0; client < clients; client++) {
                    int one = 1 << client;
                    if (((set | calmed) & one) == 0 && nerve[client] <= sums) {
                        set |= one;
                        sums += sum[client];
                        isGrowing = true;
                    }
                }
            }
            return set;
        }

        int sumOf(int set) {
            int all = 0;
            for (int client = 0; client < clients; client++) {
                if ((set & (1 << client)) != 0) {
                    all += sum[client];
                }
            }
            return all;
        }

        int payComing() {
            int coming = comingWithout(0);
            if (coming == 0) {
                return NONE;
            }
            int all = 0;
            int left = 0;
            for (int client = 0; client < clients; client++) {
                if ((coming & (1 << client)) != 0 && sum[client] <= cash) {
                    cash -= sum[client];
                    all += sum[client];
                } else {
                    sum[left] = sum[client];
                    nerve[left] = nerve[client];
                    left++;
                }
            }
            clients = left;
            return all;
        }
    }

    /** The DECADES: their steps one behind the other; an end is no step, but where its block closes. */
    private static final class Plan {
        boolean isThere;
        int steps;
        final int[] kind = new int[MOST_STEPS];
        final int[] who = new int[MOST_STEPS];
        final int[] other = new int[MOST_STEPS];
        final int[] much = new int[MOST_STEPS];
        final int[] test = new int[MOST_STEPS];
        final int[] sign = new int[MOST_STEPS];
        final int[] close = new int[MOST_STEPS];

        void clear() {
            isThere = false;
            steps = 0;
        }

        void copyFrom(Plan from) {
            isThere = from.isThere;
            steps = from.steps;
            System.arraycopy(from.kind, 0, kind, 0, MOST_STEPS);
            System.arraycopy(from.who, 0, who, 0, MOST_STEPS);
            System.arraycopy(from.other, 0, other, 0, MOST_STEPS);
            System.arraycopy(from.much, 0, much, 0, MOST_STEPS);
            System.arraycopy(from.test, 0, test, 0, MOST_STEPS);
            System.arraycopy(from.sign, 0, sign, 0, MOST_STEPS);
            System.arraycopy(from.close, 0, close, 0, MOST_STEPS);
        }

        boolean hasStep(int step) {
            return step >= 0 && step < steps && step < MOST_STEPS;
        }

        int addStep(int newKind) {
            if (steps >= MOST_STEPS) {
                return NONE;
            }
            kind[steps] = newKind;
            who[steps] = NONE;
            other[steps] = NONE;
            much[steps] = 0;
            test[steps] = NONE;
            sign[steps] = 0;
            close[steps] = NONE;
            steps++;
            return steps - 1;
        }

        /* The block's first step behind it is the one that comes next. */
        void closeHere(int block) {
            if (hasStep(block)) {
                close[block] = steps;
            }
        }

        int closeOf(int step) {
            return hasStep(step) ? close[step] : NONE;
        }
    }

    /** What a mark keeps. */
    private static final class Mark {
        final Bank bank = new Bank();
        final Plan plan = new Plan();
    }

    /** The TRAYS, all laid in rows made once. */
    private static final class Trays {
        final long[][] rows = new long[MOST_TRAYS][MOST_IN_TRAY];
        final int[] sorts = new int[MOST_TRAYS];
        final int[] sizes = new int[MOST_TRAYS];

        Trays() {
            for (int i = 0; i < MOST_TRAYS; i++) {
                sorts[i] = NONE;
            }
        }

        boolean isTray(int tray) {
            return tray >= 0 && tray < MOST_TRAYS;
        }

        boolean isThere(int tray) {
            return isTray(tray) && sorts[tray] != NONE;
        }

        boolean areAlike(int one, int other) {
            return isTray(one) && isTray(other) && sorts[one] == sorts[other];
        }

        /* Not by place + many, which may wrap around. */
        boolean hasFrom(int tray, int place, int many) {
            return isThere(tray) && place >= 0 && many >= 0 && place <= sizes[tray] && many <= sizes[tray] - place;
        }

        int whyNot(int tray, int place) {
            if (!isTray(tray)) {
                return BAD_NUMBER;
            }
            if (!isThere(tray)) {
                return TRAY_MISSING;
            }
            return hasFrom(tray, place, 1) ? 0 : NO_PLACE;
        }

        void lay(int tray, int sort, int many) {
            if (isTray(tray)) {
                sorts[tray] = sort;
                sizes[tray] = many;
                for (int i = 0; i < MOST_IN_TRAY; i++) {
                    rows[tray][i] = 0;
                }
            }
        }

        void put(int tray, int place, long value) {
            if (hasFrom(tray, place, 1)) {
                rows[tray][place] = cut(value, sorts[tray]);
            }
        }

        long at(int tray, int place) {
            return hasFrom(tray, place, 1) ? rows[tray][place] : 0;
        }

        void shift(int from, int place, int to, int at, int many) {
            if (hasFrom(from, place, many) && hasFrom(to, at, many)) {
                System.arraycopy(rows[from], place, rows[to], at, many);
            }
        }

        private static long cut(long value, int sort) {
            switch (sort) {
                case 0: return (byte) value;
                case 1: return (short) value;
                case 2: return (int) value;
                default: return value;
            }
        }

        int whyNoTwos(int tray, int n) {
            if (!isTray(tray) || n < 0 || n > MOST_TWOS) {
                return BAD_NUMBER;
            }
            if (!isThere(tray)) {
                return TRAY_MISSING;
            }
            if (!hasFrom(tray, 0, 2 * n)) {
                return NO_PLACE;
            }
            for (int i = 0; i < 2 * n; i++) {
                if (at(tray, i) < 0 || at(tray, i) > 99) {
                    return BAD_IN_TRAY;
                }
            }
            return 0;
        }

        int fittingStills(int tray, int n) {
            int set = 0;
            for (int still = 0; still <= MOST_STILL; still++) {
                boolean fit = true;
                for (int i = 0; i < n; i++) {
                    int years = (int) at(tray, 2 * i);
                    fit = fit && greyGrown(0, still, years) == at(tray, 2 * i + 1);
                }
                if (fit) {
                    set |= 1 << still;
                }
            }
            return set;
        }
    }

    /** The tape, and its first bytes as TOKENS; a bad one, the last that is kept, is told when its turn comes. */
    private static final class Text {
        int filled = 0;
        int kind = TOKEN_END;
        int word = NONE;
        long passed = 0;
        int faultKind = NONE;
        int faultPlace = NONE;
        private int length = 0;
        private int place = 0;
        private long value = 0;
        private int passedPlace = 0;
        private int tokens = 0;
        private int next = 0;
        private boolean isWhole = false;
        private final byte[] bytes = new byte[MOST_BYTES];
        private final int[] kinds = new int[MOST_TOKENS];
        private final int[] places = new int[MOST_TOKENS];
        private final long[] values = new long[MOST_TOKENS];

        boolean hasRoomFor(int many) {
            return filled <= MOST_BYTES - many;
        }

        void append(int four) {
            for (int shift = 24; shift >= 0; shift -= 8) {
                if (filled >= 0 && filled < MOST_BYTES) {
                    bytes[filled] = (byte) (four >> shift);
                    filled++;
                }
            }
        }

        /* The tape is empty from here on; its bytes stay only till they are tokens. */
        void begin(int n) {
            filled = 0;
            length = n < MOST_BYTES ? n : MOST_BYTES;
            tokens = 0;
            faultKind = 0;
            faultPlace = NONE;
            int from = 0;
            isWhole = false;
            for (int i = 0; i < MOST_TOKENS && !isWhole; i++) {
                from = scanToken(from);
            }
            next = 0;
            advance();
        }

        private int byteAt(int i) {
            return i >= 0 && i < length && i < MOST_BYTES ? bytes[i] : NONE;
        }

        private boolean isBlank(int i) {
            return byteAt(i) == 10 || byteAt(i) == 32;
        }

        private boolean isLetter(int i) {
            return byteAt(i) >= 'a' && byteAt(i) <= 'z';
        }

        private boolean isDigit(int i) {
            return byteAt(i) >= '0' && byteAt(i) <= '9';
        }

        private boolean isSignAt(int i) {
            int one = byteAt(i);
            return one == ';' || one == '<' || one == '>' || one == '=';
        }

        private int scanToken(int from) {
            int start = from;
            while (start < length && isBlank(start)) {
                start++;
            }
            if (start >= length) {
                addToken(TOKEN_END, length, 0);
                return start;
            }
            if (isLetter(start)) {
                return scanWord(start);
            }
            if (isDigit(start)) {
                return scanNumber(start);
            }
            addToken(isSignAt(start) ? TOKEN_SIGN : TOKEN_BAD, start, byteAt(start));
            return start + 1;
        }

        /* Five bits for each letter: no two names come to the same, none to 0. */
        private int scanWord(int start) {
            int end = start;
            long letters = 0;
            while (end < length && isLetter(end)) {
                letters = letters * 32 + (byteAt(end) - 'a' + 1);
                end++;
            }
            int known = knownWord(start, end);
            if (known != NONE) {
                addToken(TOKEN_WORD, start, known);
            } else {
                addToken(end - start <= LONGEST_NAME ? TOKEN_NAME : TOKEN_LONG, start, letters);
            }
            return end;
        }

        private int scanNumber(int start) {
            int end = start;
            long number = 0;
            while (end < length && isDigit(end)) {
                number = number * 10 + (byteAt(end) - '0');
                end++;
            }
            addToken(end - start <= LONGEST_NUMBER ? TOKEN_NUMBER : TOKEN_BAD, start, number);
            return end;
        }

        private void addToken(int newKind, int newPlace, long newValue) {
            if (tokens >= 0 && tokens < MOST_TOKENS) {
                kinds[tokens] = newKind;
                places[tokens] = newPlace;
                values[tokens] = newValue;
                tokens++;
            }
            isWhole = newKind == TOKEN_END || newKind == TOKEN_BAD;
        }

        private int knownWord(int start, int end) {
            int number = 0;
            int first = 0;
            for (int i = 0; i < WORDS.length(); i++) {
                if (WORDS.charAt(i) == ' ') {
                    if (i - first == end - start && isWritten(start, end, first)) {
                        return number;
                    }
                    number++;
                    first = i + 1;
                }
            }
            return NONE;
        }

        private boolean isWritten(int start, int end, int first) {
            for (int i = 0; i < end - start; i++) {
                if (first + i >= WORDS.length() || WORDS.charAt(first + i) != byteAt(start + i)) {
                    return false;
                }
            }
            return true;
        }

        /* At the last token, the end or a bad one, it stays. */
        void advance() {
            passed = value;
            passedPlace = place;
            if (next >= 0 && next < tokens && next < MOST_TOKENS) {
                kind = kinds[next];
                place = places[next];
                value = values[next];
                word = kind == TOKEN_WORD ? (int) value : NONE;
                next++;
            }
        }

        boolean fail(int why) {
            faultKind = why;
            faultPlace = place;
            return false;
        }

        boolean failHere() {
            faultKind = kind == TOKEN_BAD ? FAULT_TOKEN : FAULT_PLACE;
            faultPlace = place;
            return false;
        }

        boolean failPassed(int why) {
            faultKind = why;
            faultPlace = passedPlace;
            return false;
        }

        boolean passWord(int sought) {
            if (word != sought) {
                return failHere();
            }
            advance();
            return true;
        }

        boolean passName() {
            if (kind != TOKEN_NAME) {
                return failHere();
            }
            advance();
            return true;
        }

        boolean passNumber(int least, int most) {
            if (kind != TOKEN_NUMBER) {
                return failHere();
            }
            if (value < least || value > most) {
                return fail(FAULT_NUMBER);
            }
            advance();
            return true;
        }

        boolean passSemicolon() {
            if (kind != TOKEN_SIGN || value != ';') {
                return failHere();
            }
            advance();
            return true;
        }

        boolean passCompare() {
            if (kind != TOKEN_SIGN || value == ';') {
                return failHere();
            }
            advance();
            return true;
        }

        int passedNumber() {
            return (int) passed;
        }
    }

    /** Reads a BANK. */
    private static final class BankReader {
        private final Text text;
        private final Bank bank;
        private boolean oddsTold = false;
        private boolean cashTold = false;

        BankReader(Text fromText, Bank intoBank) {
            text = fromText;
            bank = intoBank;
        }

        boolean readParts() {
            bank.clear();
            oddsTold = false;
            cashTold = false;
            for (int i = 0; i < MOST_TOKENS && text.kind != TOKEN_END; i++) {
                if (!readPart()) {
                    return false;
                }
            }
            return true;
        }

        private boolean readPart() {
            switch (text.word) {
                case ODDS: return readOdds();
                case CASH: return readCash();
                case CORNER: return readCorner();
                case RANK: return readRank();
                case CLERK: return readClerk();
                case CLIENT: return readClient();
                default: return text.failHere();
            }
        }

        private boolean readOdds() {
            if (oddsTold) {
                return text.fail(FAULT_AGAIN);
            }
            oddsTold = true;
            text.advance();
            if (!text.passNumber(0, MOST_ODDS)) {
                return false;
            }
            bank.odds = text.passedNumber();
            return text.passSemicolon();
        }

        private boolean readCash() {
            if (cashTold) {
                return text.fail(FAULT_AGAIN);
            }
            cashTold = true;
            text.advance();
            if (!text.passNumber(0, MOST_CASH)) {
                return false;
            }
            bank.cash = text.passedNumber();
            return text.passSemicolon();
        }

        private boolean readCorner() {
            if (bank.corners >= MOST_CORNERS) {
                return text.fail(FAULT_MANY);
            }
            text.advance();
            if (!text.passWord(STILL) || !text.passNumber(0, MOST_STILL)) {
                return false;
            }
            bank.addCorner(text.passedNumber());
            return text.passSemicolon();
        }

        private boolean readRank() {
            if (bank.ranks >= MOST_RANKS) {
                return text.fail(FAULT_MANY);
            }
            text.advance();
            if (!text.passWord(AT) || !text.passNumber(bank.leastNextAt(), MOST_GREY)) {
                return false;
            }
            int at = text.passedNumber();
            if (!text.passWord(PAY) || !text.passNumber(0, MOST_PAY)) {
                return false;
            }
            bank.addRank(at, text.passedNumber());
            return text.passSemicolon();
        }

        private boolean readClerk() {
            if (bank.clerks >= MOST_CLERKS) {
                return text.fail(FAULT_MANY);
            }
            text.advance();
            if (!text.passName()) {
                return false;
            }
            long name = text.passed;
            if (bank.clerkNamed(name) != NONE) {
                return text.failPassed(FAULT_NAME);
            }
            if (!text.passWord(IN) || !text.passNumber(0, bank.corners - 1)) {
                return false;
            }
            if (bank.sitterIn(text.passedNumber()) != NONE) {
                return text.failPassed(FAULT_AGAIN);
            }
            int clerk = bank.addClerk(name, text.passedNumber());
            return readTrait(SERVED, MOST_SERVED, bank.served, clerk)
                    && readTrait(GREY, MOST_GREY, bank.grey, clerk)
                    && readTrait(SHAM, MOST_GREY, bank.sham, clerk)
                    && text.passSemicolon();
        }

        private boolean readTrait(int word, int most, int[] row, int clerk) {
            if (text.word != word) {
                return true;
            }
            text.advance();
            if (!text.passNumber(0, most)) {
                return false;
            }
            if (clerk >= 0 && clerk < row.length) {
                row[clerk] = text.passedNumber();
            }
            return true;
        }

        private boolean readClient() {
            if (bank.clients >= MOST_CLIENTS) {
                return text.fail(FAULT_MANY);
            }
            text.advance();
            if (!text.passWord(SUM) || !text.passNumber(1, MOST_SUM)) {
                return false;
            }
            int sum = text.passedNumber();
            if (!text.passWord(NERVE) || !text.passNumber(0, MOST_NERVE)) {
                return false;
            }
            bank.addClient(sum, text.passedNumber());
            return text.passSemicolon();
        }
    }

    /** Reads DECADES for the clerks and corners of a BANK. */
    private static final class PlanReader {
        private final Text text;
        private final Bank bank;
        private final Plan plan;
        private final int[] begun = new int[MOST_DEPTH];
        private int depth = 0;

        PlanReader(Text fromText, Bank forBank, Plan intoPlan) {
            text = fromText;
            bank = forBank;
            plan = intoPlan;
        }

        boolean readSteps() {
            plan.clear();
            depth = 0;
            for (int i = 0; i < MOST_TOKENS && text.kind != TOKEN_END; i++) {
                boolean isGood = text.word == END ? readEnd() : readStep();
                if (!isGood) {
                    return false;
                }
            }
            plan.isThere = depth == 0;
            return depth == 0 || text.failHere();
        }

        private boolean readEnd() {
            if (depth <= 0 || depth > MOST_DEPTH) {
                return text.failHere();
            }
            depth--;
            plan.closeHere(begun[depth]);
            text.advance();
            return text.passSemicolon();
        }

        private boolean readStep() {
            int kind = text.word;
            boolean isBlock = kind == WHEN || kind == LOOP;
            if (kind < YEAR || kind == LOOKS) {
                return text.failHere();
            }
            if (plan.steps >= MOST_STEPS) {
                return text.fail(FAULT_MANY);
            }
            if (isBlock && depth >= MOST_DEPTH) {
                return text.fail(FAULT_DEEP);
            }
            int step = plan.addStep(kind);
            if (isBlock && depth >= 0) {
                begun[depth] = step;
                depth++;
            }
            text.advance();
            return plan.hasStep(step) && readRest(kind, step) && text.passSemicolon();
        }

        private boolean readRest(int kind, int step) {
            switch (kind) {
                case YEAR: return readMuch(step, 1, 20);
                case MOVE: return readName(plan.who, step) && readMuch(step, 0, bank.corners - 1);
                case SWAP: return readName(plan.who, step) && readName(plan.other, step);
                case FAN: return readName(plan.who, step) && readMuch(step, 1, MOST_FAN);
                case DUST:
                case LOOK: return readName(plan.who, step);
                case WHEN: return readTest(step);
                case LOOP: return readMuch(step, 1, 99);
                default: return true;
            }
        }

        private boolean readMuch(int step, int least, int most) {
            return text.passNumber(least, most) && put(plan.much, step, text.passedNumber());
        }

        private boolean readName(int[] row, int step) {
            if (!text.passName()) {
                return false;
            }
            int clerk = bank.clerkNamed(text.passed);
            if (clerk == NONE) {
                return text.failPassed(FAULT_NAME);
            }
            return put(row, step, clerk);
        }

        private boolean readTest(int step) {
            int test = text.word;
            if (test != RANK && test != LOOKS && test != CASH) {
                return text.failHere();
            }
            put(plan.test, step, test);
            text.advance();
            if (test != CASH && !readName(plan.who, step)) {
                return false;
            }
            if (!text.passCompare()) {
                return false;
            }
            put(plan.sign, step, text.passedNumber());
            return readMuch(step, 0, mostTested(test));
        }

        private static int mostTested(int test) {
            switch (test) {
                case RANK: return MOST_RANKS;
                case LOOKS: return MOST_GREY;
                default: return MOST_CASH;
            }
        }

        private static boolean put(int[] row, int step, int value) {
            if (step >= 0 && step < row.length) {
                row[step] = value;
            }
            return true;
        }
    }

    /** DECADES lived through once, and what came of it. */
    private static final class Life {
        int steps = 0;
        int missed = 0;
        int years = 0;
        int paidToClerks = 0;
        int paidToClients = 0;
        boolean isCut = false;
        private int seed = 0;
        private int open = 0;
        private final int[] loops = new int[MOST_DEPTH];
        private final int[] rounds = new int[MOST_DEPTH];

        void goThrough(Bank bank, Plan plan, int firstSeed) {
            begin(firstSeed);
            int yearBefore = bank.year;
            int paidBefore = bank.paidOfAll();
            int next = 0;
            for (int i = 0; i < FAR && next != NONE; i++) {
                next = isRoundOver(plan, next) ? behindRound(next) : behindStep(bank, plan, next);
            }
            years = bank.year - yearBefore;
            paidToClerks = bank.paidOfAll() - paidBefore;
        }

        private void begin(int firstSeed) {
            steps = 0;
            missed = 0;
            paidToClients = 0;
            isCut = false;
            seed = firstSeed;
            open = 0;
        }

        private boolean isRoundOver(Plan plan, int next) {
            int top = open - 1;
            return top >= 0 && top < MOST_DEPTH && plan.closeOf(loops[top]) == next;
        }

        private int behindRound(int next) {
            int top = open - 1;
            if (top >= 0 && top < MOST_DEPTH && rounds[top] > 0) {
                rounds[top]--;
                return loops[top] + 1;
            }
            open--;
            return next;
        }

        private int behindStep(Bank bank, Plan plan, int step) {
            if (!plan.hasStep(step)) {
                return NONE;
            }
            if (steps >= MOST_LIVED) {
                isCut = true;
                return NONE;
            }
            steps++;
            int kind = plan.kind[step];
            if (kind == STOP) {
                return NONE;
            }
            if (kind == WHEN) {
                return holds(bank, plan, step) ? step + 1 : plan.closeOf(step);
            }
            if (kind == LOOP) {
                enterLoop(plan, step);
                return step + 1;
            }
            boolean isDone = kind == ANY ? dustOrWait(bank) : act(bank, plan, step);
            if (!isDone) {
                missed++;
            }
            return step + 1;
        }

        /* An empty loop is not entered: its rounds have no step to be counted by. */
        private void enterLoop(Plan plan, int step) {
            if (open >= 0 && open < MOST_DEPTH && plan.closeOf(step) > step + 1) {
                loops[open] = step;
                rounds[open] = plan.much[step] - 1;
                open++;
            }
        }

        private static boolean holds(Bank bank, Plan plan, int step) {
            int found = foundBy(bank, plan.test[step], plan.who[step]);
            switch (plan.sign[step]) {
                case '<': return found < plan.much[step];
                case '>': return found > plan.much[step];
                default: return found == plan.much[step];
            }
        }

        private static int foundBy(Bank bank, int test, int clerk) {
            switch (test) {
                case RANK: return bank.rankBy(bank.looksOf(clerk)) + 1;
                case LOOKS: return bank.looksOf(clerk);
                default: return bank.cash;
            }
        }

        private boolean act(Bank bank, Plan plan, int step) {
            int who = plan.who[step];
            int much = plan.much[step];
            switch (plan.kind[step]) {
                case YEAR: return bank.passYears(much) != NONE;
                case MOVE: return bank.seatElsewhere(who, much) != NONE;
                case SWAP: return bank.exchange(who, plan.other[step]) != NONE;
                case FAN: return bank.addSham(who, much) != NONE;
                case DUST: return bank.wipe(who) != NONE;
                case LOOK: return bank.exposeSham(who) != NONE;
                default: return payClients(bank);
            }
        }

        private boolean payClients(Bank bank) {
            int paid = bank.payComing();
            if (paid == NONE) {
                return false;
            }
            paidToClients += paid;
            return true;
        }

        private boolean dustOrWait(Bank bank) {
            if (bank.clerks == 0) {
                return false;
            }
            int clerk = drawBy(bank.clerks);
            int luck = drawBy(16);
            if (luck < bank.odds) {
                return bank.wipe(clerk) != NONE;
            }
            return bank.passYears(1) != NONE;
        }

        private int drawBy(int n) {
            seed = (seed * 3253 + 11471) % 65536;
            return n > 0 ? seed / 8 % n : 0;
        }
    }

    /** Who should sit where. */
    private static final class Seats {
        private final int[] most = new int[1 << MOST_CORNERS];

        int mostGrey(Bank bank, int years) {
            fill(bank, years);
            return most[0];
        }

        int bestSeat(Bank bank, int years, int sought) {
            fill(bank, years);
            int taken = 0;
            int corner = NONE;
            for (int clerk = 0; clerk <= sought && clerk < bank.clerks; clerk++) {
                corner = firstBest(bank, years, clerk, taken);
                if (corner != NONE) {
                    taken |= 1 << corner;
                }
            }
            return corner;
        }

        /* most[taken]: the most grey of those behind, when as many sit as corners are taken. */
        private void fill(Bank bank, int years) {
            for (int taken = (1 << bank.corners) - 1; taken >= 0; taken--) {
                most[taken] = 0;
                int clerk = Integer.bitCount(taken);
                if (clerk < bank.clerks) {
                    int corner = firstBest(bank, years, clerk, taken);
                    most[taken] = greyWith(bank, years, clerk, corner, taken);
                }
            }
        }

        private int firstBest(Bank bank, int years, int clerk, int taken) {
            int best = NONE;
            int bestGrey = NONE;
            for (int corner = 0; corner < bank.corners; corner++) {
                int all = greyWith(bank, years, clerk, corner, taken);
                if (all > bestGrey) {
                    best = corner;
                    bestGrey = all;
                }
            }
            return best;
        }

        private int greyWith(Bank bank, int years, int clerk, int corner, int taken) {
            if (!bank.hasCorner(corner) || (taken & (1 << corner)) != 0) {
                return NONE;
            }
            return bank.greySeated(clerk, corner, years) + most[taken | (1 << corner)];
        }
    }

    /** A game: each clerk is chosen but once, so that what a choice comes to is known ahead. */
    private static final class Game {
        int clerks;
        int turns;
        private final int[] untouched = new int[MOST_CLERKS];
        private final int[] given = new int[MOST_CLERKS];
        private final int[] halved = new int[MOST_CLERKS];

        void prepare(Bank bank, int at, int n) {
            clerks = bank.clerks;
            turns = n;
            for (int clerk = 0; clerk < clerks; clerk++) {
                int sham = bank.sham[clerk];
                untouched[clerk] = looksBy(bank.grey[clerk], sham) >= at ? 1 : 0;
                given[clerk] = looksBy(bank.greyStaying(clerk, 1), sham) >= at ? 1 : 0;
                halved[clerk] = looksBy(bank.grey[clerk] / 2, sham) >= at ? 1 : 0;
            }
        }

        static boolean isSittersTurn(int turn) {
            return turn % 2 == 0;
        }

        int standing() {
            int all = 0;
            for (int clerk = 0; clerk < clerks; clerk++) {
                all += untouched[clerk];
            }
            return all;
        }

        int gainBy(int clerk, int turn) {
            if (clerk < 0 || clerk >= clerks) {
                return 0;
            }
            return (isSittersTurn(turn) ? given[clerk] : halved[clerk]) - untouched[clerk];
        }
    }
}
