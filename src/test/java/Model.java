import java.math.BigInteger;
import java.util.ArrayList;
import java.util.Arrays;
import java.util.List;

/**
 * The document once more, written for the tests: objects and lists in place of rows, texts read by descent with
 * exceptions, DECADES as a tree, and every search done by trying all there is.
 */
public final class Model {
    static final int NONE = -1;

    static final class Clerk {
        String name = "";
        int corner, served, grey, sham, paid, unpaid;

        Clerk copy() {
            Clerk c = new Clerk();
            c.name = name;
            c.corner = corner;
            c.served = served;
            c.grey = grey;
            c.sham = sham;
            c.paid = paid;
            c.unpaid = unpaid;
            return c;
        }

        int looks() {
            return Math.min(99, grey + sham);
        }
    }

    record Rank(int at, int pay) { }

    record Client(int sum, int nerve) { }

    static final class Bank {
        int odds = 4, cash = 100, year;
        List<Integer> stills = new ArrayList<>();
        List<Rank> ranks = new ArrayList<>();
        List<Clerk> clerks = new ArrayList<>();
        List<Client> clients = new ArrayList<>();

        Bank copy() {
            Bank b = new Bank();
            b.odds = odds;
            b.cash = cash;
            b.year = year;
            b.stills.addAll(stills);
            b.ranks.addAll(ranks);
            for (Clerk c : clerks) b.clerks.add(c.copy());
            b.clients.addAll(clients);
            return b;
        }

        Clerk sitter(int corner) {
            for (Clerk c : clerks) if (c.corner == corner) return c;
            return null;
        }

        int rankBy(int looks) {
            for (int r = ranks.size() - 1; r >= 0; r--) if (ranks.get(r).at() <= looks) return r;
            return NONE;
        }

        int oneYear() {
            int all = 0;
            for (Clerk c : clerks) {
                int r = rankBy(c.looks());
                int pay = r == NONE ? 0 : ranks.get(r).pay();
                if (pay > cash) {
                    c.unpaid++;
                } else {
                    cash -= pay;
                    c.paid += pay;
                    all += pay;
                }
                c.served = Math.min(999, c.served + 1);
                c.grey = Math.min(99, c.grey + stills.get(c.corner));
            }
            year++;
            return all;
        }

        int grey() {
            return clerks.stream().mapToInt(c -> c.grey).sum();
        }

        int unpaid() {
            return clerks.stream().mapToInt(c -> c.unpaid).sum();
        }

        int paid() {
            return clerks.stream().mapToInt(c -> c.paid).sum();
        }

        void toCorner(Clerk c, int corner) {
            c.corner = corner;
            c.grey /= 2;
            c.sham = 0;
        }

        /** Simultaneously, round by round, and whether a client comes is asked anew for each. */
        int coming(int without) {
            int set = 0;
            while (true) {
                int more = set;
                for (int i = 0; i < clients.size(); i++) {
                    if ((without >> i & 1) == 1) continue;
                    if (clients.get(i).nerve() <= sums(set & ~(1 << i))) more |= 1 << i;
                }
                if (more == set) return set;
                set = more;
            }
        }

        int sums(int set) {
            int all = 0;
            for (int i = 0; i < clients.size(); i++) if ((set >> i & 1) == 1) all += clients.get(i).sum();
            return all;
        }

        /** What was paid; -1 if nobody comes. */
        int run() {
            int set = coming(0);
            if (set == 0) return -1;
            int all = 0;
            List<Client> left = new ArrayList<>();
            for (int i = 0; i < clients.size(); i++) {
                Client c = clients.get(i);
                if ((set >> i & 1) == 1 && cash >= c.sum()) {
                    cash -= c.sum();
                    all += c.sum();
                } else {
                    left.add(c);
                }
            }
            clients = left;
            return all;
        }
    }

    // ---- texts

    static final class Fault extends RuntimeException {
        private static final long serialVersionUID = 1;
        final int kind, place;

        Fault(int kind, int place) {
            super("fault " + kind + " at " + place, null, false, false);
            this.kind = kind;
            this.place = place;
        }
    }

    static final List<String> WORDS = Arrays.asList(("odds cash corner still rank at pay clerk in served grey sham "
            + "client sum nerve year move swap fan dust look run any when looks loop end stop").split(" "));

    /** Scans token by token, only when one is asked for. */
    static final class Reader {
        final String s;
        int pos, start;
        String token;       // null at the end

        Reader(byte[] bytes) {
            StringBuilder b = new StringBuilder();
            for (byte x : bytes) b.append((char) (x & 255));
            s = b.toString();
            next();
        }

        void next() {
            while (pos < s.length() && (s.charAt(pos) == ' ' || s.charAt(pos) == '\n')) pos++;
            start = pos;
            if (pos == s.length()) {
                token = null;
                return;
            }
            char c = s.charAt(pos);
            if (c >= 'a' && c <= 'z') {
                while (pos < s.length() && s.charAt(pos) >= 'a' && s.charAt(pos) <= 'z') pos++;
            } else if (c >= '0' && c <= '9') {
                while (pos < s.length() && s.charAt(pos) >= '0' && s.charAt(pos) <= '9') pos++;
                if (pos - start > 4) throw new Fault(1, start);
            } else if (";<>=".indexOf(c) >= 0) {
                pos++;
            } else {
                throw new Fault(1, start);
            }
            token = s.substring(start, pos);
        }

        Fault wrong() {
            return new Fault(2, start);
        }

        boolean is(String t) {
            return t.equals(token);
        }

        void must(String t) {
            if (!is(t)) throw wrong();
            next();
        }

        boolean isNumber() {
            return token != null && Character.isDigit(token.charAt(0));
        }

        int number(int low, int high) {
            if (!isNumber()) throw wrong();
            int v = Integer.parseInt(token);
            if (v < low || v > high) throw new Fault(4, start);
            return v;
        }

        int take(int low, int high) {
            int v = number(low, high);
            next();
            return v;
        }

        String name() {
            if (token == null || !token.matches("[a-z]{1,8}") || WORDS.contains(token)) throw wrong();
            return token;
        }
    }

    static Bank readBank(byte[] bytes) {
        Bank b = new Bank();
        Reader r = new Reader(bytes);
        boolean odds = false, cash = false;
        while (r.token != null) {
            switch (r.token) {
                case "odds" -> {
                    if (odds) throw new Fault(5, r.start);
                    odds = true;
                    r.next();
                    b.odds = r.take(0, 16);
                }
                case "cash" -> {
                    if (cash) throw new Fault(5, r.start);
                    cash = true;
                    r.next();
                    b.cash = r.take(0, 9999);
                }
                case "corner" -> {
                    if (b.stills.size() == 7) throw new Fault(6, r.start);
                    r.next();
                    r.must("still");
                    b.stills.add(r.take(0, 9));
                }
                case "rank" -> readRank(b, r);
                case "clerk" -> readClerk(b, r);
                case "client" -> {
                    if (b.clients.size() == 8) throw new Fault(6, r.start);
                    r.next();
                    r.must("sum");
                    int sum = r.take(1, 99);
                    r.must("nerve");
                    b.clients.add(new Client(sum, r.take(0, 999)));
                }
                default -> throw r.wrong();
            }
            r.must(";");
        }
        return b;
    }

    static void readRank(Bank b, Reader r) {
        if (b.ranks.size() == 5) throw new Fault(6, r.start);
        r.next();
        r.must("at");
        int at = r.number(0, 99);
        if (!b.ranks.isEmpty() && at <= b.ranks.get(b.ranks.size() - 1).at()) throw new Fault(4, r.start);
        r.next();
        r.must("pay");
        b.ranks.add(new Rank(at, r.take(0, 50)));
    }

    static void readClerk(Bank b, Reader r) {
        if (b.clerks.size() == 6) throw new Fault(6, r.start);
        r.next();
        Clerk c = new Clerk();
        c.name = r.name();
        for (Clerk other : b.clerks) if (other.name.equals(c.name)) throw new Fault(3, r.start);
        r.next();
        r.must("in");
        c.corner = r.number(0, b.stills.size() - 1);
        if (b.sitter(c.corner) != null) throw new Fault(5, r.start);
        r.next();
        if (r.is("served")) {
            r.next();
            c.served = r.take(0, 999);
        }
        if (r.is("grey")) {
            r.next();
            c.grey = r.take(0, 99);
        }
        if (r.is("sham")) {
            r.next();
            c.sham = r.take(0, 99);
        }
        b.clerks.add(c);
    }

    static final class Step {
        String word, test;
        int clerk = NONE, other = NONE, number;
        char sign;
        List<Step> body = new ArrayList<>();
    }

    static final class Decades {
        List<Step> steps = new ArrayList<>();
        int count;
    }

    static Decades readDecades(byte[] bytes, Bank b) {
        Decades d = new Decades();
        Reader r = new Reader(bytes);
        readBlock(d, d.steps, r, b, 0);
        if (r.token != null) throw r.wrong();
        return d;
    }

    static void readBlock(Decades d, List<Step> into, Reader r, Bank b, int depth) {
        while (r.token != null && !r.is("end")) {
            if (!Arrays.asList("year", "move", "swap", "fan", "dust", "look", "run", "any", "when", "loop", "stop")
                    .contains(r.token)) throw r.wrong();
            if (d.count == 30) throw new Fault(6, r.start);
            boolean block = r.is("when") || r.is("loop");
            if (block && depth == 3) throw new Fault(7, r.start);
            d.count++;
            Step s = new Step();
            s.word = r.token;
            into.add(s);
            r.next();
            readOperands(s, r, b);
            r.must(";");
            if (block) {
                readBlock(d, s.body, r, b, depth + 1);
                r.must("end");
                r.must(";");
            }
        }
    }

    static void readOperands(Step s, Reader r, Bank b) {
        switch (s.word) {
            case "year" -> s.number = r.take(1, 20);
            case "loop" -> s.number = r.take(1, 99);
            case "move" -> {
                s.clerk = clerkNamed(r, b);
                s.number = r.take(0, b.stills.size() - 1);
            }
            case "swap" -> {
                s.clerk = clerkNamed(r, b);
                s.other = clerkNamed(r, b);
            }
            case "fan" -> {
                s.clerk = clerkNamed(r, b);
                s.number = r.take(1, 50);
            }
            case "dust", "look" -> s.clerk = clerkNamed(r, b);
            case "when" -> {
                if (!r.is("rank") && !r.is("looks") && !r.is("cash")) throw r.wrong();
                s.test = r.token;
                r.next();
                if (!s.test.equals("cash")) s.clerk = clerkNamed(r, b);
                if (!r.is("<") && !r.is(">") && !r.is("=")) throw r.wrong();
                s.sign = r.token.charAt(0);
                r.next();
                s.number = r.take(0, s.test.equals("rank") ? 5 : s.test.equals("looks") ? 99 : 9999);
            }
            default -> { }
        }
    }

    static int clerkNamed(Reader r, Bank b) {
        String name = r.name();
        for (int i = 0; i < b.clerks.size(); i++) {
            if (b.clerks.get(i).name.equals(name)) {
                r.next();
                return i;
            }
        }
        throw new Fault(3, r.start);
    }

    // ---- DECADES lived

    static final class Stop extends RuntimeException {
        private static final long serialVersionUID = 1;

        Stop() {
            super("stop", null, false, false);
        }
    }

    static final class Life {
        int steps, missed, years, paid, given, left;
        long s;

        void live(Bank b, Decades d, int seed) {
            s = seed;
            try {
                block(b, d.steps);
            } catch (Stop e) {
                // All is told by the fields.
            }
        }

        void block(Bank b, List<Step> steps) {
            for (Step step : steps) {
                if (this.steps == 300) {
                    left = 1;
                    throw new Stop();
                }
                this.steps++;
                one(b, step);
            }
        }

        int draw(int n) {
            s = (s * 3253 + 11471) % 65536;
            return (int) (s / 8 % n);
        }

        void years(Bank b, int n) {
            if (b.year + n > 9999) {
                missed++;
                return;
            }
            for (int i = 0; i < n; i++) paid += b.oneYear();
            years += n;
        }

        void dust(Clerk c) {
            if (c.grey == 0 && c.sham == 0) missed++;
            c.grey = 0;
            c.sham = 0;
        }

        void one(Bank b, Step t) {
            Clerk c = t.clerk == NONE ? null : b.clerks.get(t.clerk);
            switch (t.word) {
                case "stop" -> throw new Stop();
                case "year" -> years(b, t.number);
                case "move" -> {
                    if (b.sitter(t.number) != null) missed++;
                    else b.toCorner(c, t.number);
                }
                case "swap" -> {
                    if (t.clerk == t.other) {
                        missed++;
                    } else {
                        Clerk o = b.clerks.get(t.other);
                        int k = c.corner;
                        b.toCorner(c, o.corner);
                        b.toCorner(o, k);
                    }
                }
                case "fan" -> {
                    if (c.sham == 99) missed++;
                    c.sham = Math.min(99, c.sham + t.number);
                }
                case "dust" -> dust(c);
                case "look" -> {
                    if (c.sham == 0) missed++;
                    c.sham = 0;
                }
                case "run" -> {
                    int got = b.run();
                    if (got < 0) missed++;
                    else given += got;
                }
                case "any" -> {
                    if (b.clerks.isEmpty()) {
                        missed++;
                    } else {
                        Clerk one = b.clerks.get(draw(b.clerks.size()));
                        if (draw(16) < b.odds) dust(one);
                        else years(b, 1);
                    }
                }
                case "when" -> {
                    if (holds(b, t, c)) block(b, t.body);
                }
                default -> {
                    for (int i = 0; i < t.number; i++) block(b, t.body);
                }
            }
        }

        static boolean holds(Bank b, Step t, Clerk c) {
            int v = t.test.equals("cash") ? b.cash : t.test.equals("looks") ? c.looks() : b.rankBy(c.looks()) + 1;
            return t.sign == '<' ? v < t.number : t.sign == '>' ? v > t.number : v == t.number;
        }
    }

    // ---- the object

    record Kept(Bank bank, Decades decades) { }

    Bank b = new Bank();
    Decades d;
    Life latest;
    List<Kept> marks = new ArrayList<>();
    long[][] trays = new long[4][];
    int[] sorts = new int[4];
    List<Byte> tape = new ArrayList<>();
    int status, faultKind = NONE, faultPlace = NONE;
    BigInteger top = BigInteger.ZERO, bottom = BigInteger.ONE;

    public int status() {
        return status;
    }

    public long top() {
        return top.longValueExact();
    }

    public long bottom() {
        return bottom.longValueExact();
    }

    int no(int s) {
        status = s;
        return NONE;
    }

    boolean not(int s) {
        status = s;
        return false;
    }

    int yes(int v) {
        status = 0;
        return v;
    }

    boolean yes() {
        status = 0;
        return true;
    }

    boolean fraction(BigInteger t, BigInteger u) {
        BigInteger g = t.gcd(u);
        top = t.divide(g);
        bottom = u.divide(g);
        return yes();
    }

    static boolean in(int v, int low, int high) {
        return low <= v && v <= high;
    }

    boolean isClerk(int c) {
        return in(c, 0, b.clerks.size() - 1);
    }

    boolean isCorner(int c) {
        return in(c, 0, b.stills.size() - 1);
    }

    boolean isRank(int r) {
        return in(r, 0, b.ranks.size() - 1);
    }

    public boolean tray(int tray, int sort, int many) {
        if (!in(tray, 0, 3) || !in(sort, 0, 3) || !in(many, 0, 60)) return not(1);
        trays[tray] = new long[many];
        sorts[tray] = sort;
        return yes();
    }

    public boolean write(int tray, int place, long v) {
        if (!in(tray, 0, 3)) return not(1);
        if (trays[tray] == null) return not(2);
        if (!in(place, 0, trays[tray].length - 1)) return not(3);
        int away = 64 - (8 << sorts[tray]);
        trays[tray][place] = v << away >> away;
        return yes();
    }

    public long read(int tray, int place) {
        if (!in(tray, 0, 3)) return no(1);
        if (trays[tray] == null) return no(2);
        if (!in(place, 0, trays[tray].length - 1)) return no(3);
        status = 0;
        return trays[tray][place];
    }

    public boolean pour(int from, int place, int to, int at, int many) {
        if (!in(from, 0, 3) || !in(to, 0, 3) || place < 0 || at < 0 || many < 0) return not(1);
        if (trays[from] == null || trays[to] == null) return not(2);
        if (sorts[from] != sorts[to]) return not(8);
        if ((long) place + many > trays[from].length || (long) at + many > trays[to].length) return not(3);
        long[] old = trays[from].clone();
        for (int i = 0; i < many; i++) trays[to][at + i] = old[place + i];
        return yes();
    }

    public int feed(int a, int b, int c, int d, int e) {
        if (tape.size() + 20 > 900) return NONE;
        for (int v : new int[] {a, b, c, d, e}) {
            for (int k = 3; k >= 0; k--) tape.add((byte) (v >>> 8 * k));
        }
        return tape.size();
    }

    byte[] takeTape(int n) {
        byte[] bytes = new byte[n];
        for (int i = 0; i < n; i++) bytes[i] = tape.get(i);
        tape.clear();
        return bytes;
    }

    int faulty(Fault f) {
        faultKind = f.kind;
        faultPlace = f.place;
        return no(9);
    }

    public int bank(int n) {
        if (!in(n, 0, tape.size())) return no(1);
        try {
            b = readBank(takeTape(n));
        } catch (Fault f) {
            return faulty(f);
        }
        d = null;
        faultKind = 0;
        faultPlace = NONE;
        return yes(b.clerks.size());
    }

    public int decades(int n) {
        if (!in(n, 0, Math.min(300, tape.size()))) return no(1);
        try {
            d = readDecades(takeTape(n), b);
        } catch (Fault f) {
            return faulty(f);
        }
        faultKind = 0;
        faultPlace = NONE;
        return yes(d.count);
    }

    public int fault(int what) {
        return what == 0 ? faultKind : what == 1 ? faultPlace : NONE;
    }

    public int told(int what) {
        if (!in(what, 0, 10)) return no(1);
        int[] all = {b.stills.size(), b.ranks.size(), b.clerks.size(), b.clients.size(), b.odds, b.cash, b.year,
            b.unpaid(), b.paid(), b.grey(), b.clients.stream().mapToInt(Client::sum).sum()};
        return yes(all[what]);
    }

    public int corner(int corner, int what) {
        if (!isCorner(corner) || !in(what, 0, 1)) return no(1);
        if (what == 0) return yes(b.stills.get(corner));
        return b.sitter(corner) == null ? no(6) : yes(b.clerks.indexOf(b.sitter(corner)));
    }

    public int rank(int rank, int what) {
        if (!isRank(rank) || !in(what, 0, 2)) return no(1);
        if (what == 0) return yes(b.ranks.get(rank).at());
        if (what == 1) return yes(b.ranks.get(rank).pay());
        int set = 0;
        for (int i = 0; i < b.clerks.size(); i++) if (b.rankBy(b.clerks.get(i).looks()) == rank) set += 1 << i;
        return yes(set);
    }

    public int clerk(int clerk, int what) {
        if (!isClerk(clerk) || !in(what, 0, 6)) return no(1);
        Clerk c = b.clerks.get(clerk);
        return yes(new int[] {c.corner, c.served, c.grey, c.sham, c.looks(), c.paid, c.unpaid}[what]);
    }

    public int rankOf(int clerk) {
        if (!isClerk(clerk)) return no(1);
        int r = b.rankBy(b.clerks.get(clerk).looks());
        return r < 0 ? no(6) : yes(r);
    }

    public int client(int client, int what) {
        if (!in(client, 0, b.clients.size() - 1) || !in(what, 0, 1)) return no(1);
        return yes(what == 0 ? b.clients.get(client).sum() : b.clients.get(client).nerve());
    }

    public int year(int years) {
        if (!in(years, 1, 99)) return no(1);
        if (b.year + years > 9999) return no(4);
        int all = 0;
        for (int i = 0; i < years; i++) all += b.oneYear();
        return yes(all);
    }

    public int move(int clerk, int corner) {
        if (!isClerk(clerk) || !isCorner(corner)) return no(1);
        if (b.sitter(corner) != null) return no(7);
        b.toCorner(b.clerks.get(clerk), corner);
        return yes(b.clerks.get(clerk).grey);
    }

    public int swap(int clerk, int other) {
        if (!isClerk(clerk) || !isClerk(other) || clerk == other) return no(1);
        Clerk c = b.clerks.get(clerk), o = b.clerks.get(other);
        int k = c.corner;
        b.toCorner(c, o.corner);
        b.toCorner(o, k);
        return yes(c.grey + o.grey);
    }

    public int fan(int clerk, int much) {
        if (!isClerk(clerk) || !in(much, 1, 50)) return no(1);
        Clerk c = b.clerks.get(clerk);
        if (c.sham == 99) return no(7);
        c.sham = Math.min(99, c.sham + much);
        return yes(c.sham);
    }

    public int dust(int clerk) {
        if (!isClerk(clerk)) return no(1);
        Clerk c = b.clerks.get(clerk);
        int gone = c.grey + c.sham;
        c.grey = 0;
        c.sham = 0;
        return gone == 0 ? no(7) : yes(gone);
    }

    public int look(int clerk) {
        if (!isClerk(clerk)) return no(1);
        Clerk c = b.clerks.get(clerk);
        int gone = c.sham;
        c.sham = 0;
        return gone == 0 ? no(7) : yes(gone);
    }

    public int run() {
        int got = b.run();
        return got < 0 ? no(7) : yes(got);
    }

    public int hire(int corner) {
        if (!isCorner(corner)) return no(1);
        if (b.clerks.size() == 6) return no(4);
        if (b.sitter(corner) != null) return no(7);
        Clerk c = new Clerk();
        c.corner = corner;
        b.clerks.add(c);
        return yes(b.clerks.size() - 1);
    }

    public int open(int sum, int nerve) {
        if (!in(sum, 1, 99) || !in(nerve, 0, 999)) return no(1);
        if (b.clients.size() == 8) return no(4);
        b.cash = Math.min(9999, b.cash + sum);
        b.clients.add(new Client(sum, nerve));
        return yes(b.clients.size() - 1);
    }

    public int calm(int corner, int still) {
        if (!isCorner(corner) || !in(still, 0, 9)) return no(1);
        return yes(b.stills.set(corner, still));
    }

    public boolean rule(int what, int much) {
        if (!in(what, 4, 5) || !in(much, 0, what == 4 ? 16 : 9999)) return not(1);
        if (what == 4) b.odds = much;
        else b.cash = much;
        return yes();
    }

    Bank after(Bank from, int years) {
        Bank x = from.copy();
        for (int i = 0; i < years; i++) x.oneYear();
        return x;
    }

    public int greyIn(int clerk, int years) {
        if (!isClerk(clerk) || !in(years, 0, 40)) return no(1);
        return yes(after(b, years).clerks.get(clerk).grey);
    }

    public int rankIn(int clerk, int years) {
        if (!isClerk(clerk) || !in(years, 0, 40)) return no(1);
        int r = b.rankBy(after(b, years).clerks.get(clerk).looks());
        return r < 0 ? no(6) : yes(r);
    }

    public int unpaidIn() {
        Bank x = b.copy();
        for (int y = 1; y <= 99; y++) {
            x.oneYear();
            if (x.unpaid() > b.unpaid()) return yes(y);
        }
        return no(6);
    }

    public int cashIn(int years) {
        if (!in(years, 0, 40)) return no(1);
        return yes(after(b, years).cash);
    }

    /** All ways to sit, the first CLERK's CORNER the slowest; the first of the best is kept. */
    int[] bestSeats(int years) {
        int[][] best = {null};
        int[] most = {-1};
        trySeats(years, new int[b.clerks.size()], 0, best, most);
        int[] found = Arrays.copyOf(best[0], b.clerks.size() + 1);
        found[b.clerks.size()] = most[0];
        return found;
    }

    void trySeats(int years, int[] seats, int clerk, int[][] best, int[] most) {
        if (clerk == seats.length) {
            int grey = 0;
            for (int i = 0; i < seats.length; i++) {
                Clerk c = b.clerks.get(i);
                int g = c.corner == seats[i] ? c.grey : c.grey / 2;
                for (int y = 0; y < years; y++) g = Math.min(99, g + b.stills.get(seats[i]));
                grey += g;
            }
            if (grey > most[0]) {
                most[0] = grey;
                best[0] = seats.clone();
            }
            return;
        }
        for (int k = 0; k < b.stills.size(); k++) {
            boolean free = true;
            for (int i = 0; i < clerk; i++) free &= seats[i] != k;
            if (free) {
                seats[clerk] = k;
                trySeats(years, seats, clerk + 1, best, most);
            }
        }
    }

    public int seating(int years) {
        if (!in(years, 0, 40)) return no(1);
        int[] all = bestSeats(years);
        return yes(all[all.length - 1]);
    }

    public int seatOf(int years, int clerk) {
        if (!in(years, 0, 40) || !isClerk(clerk)) return no(1);
        return yes(bestSeats(years)[clerk]);
    }

    boolean likes(int years, int i, int j) {
        Bank x = b.copy();
        int k = x.clerks.get(i).corner;
        x.toCorner(x.clerks.get(i), x.clerks.get(j).corner);
        x.toCorner(x.clerks.get(j), k);
        Bank with = after(x, years), without = after(b, years);
        return with.clerks.get(i).grey + with.clerks.get(j).grey
            > without.clerks.get(i).grey + without.clerks.get(j).grey;
    }

    public int liked(int years) {
        if (!in(years, 0, 40)) return no(1);
        int n = 0;
        for (int i = 0; i < b.clerks.size(); i++) for (int j = 0; j < i; j++) if (likes(years, i, j)) n++;
        return yes(n);
    }

    public int isLiked(int years, int clerk, int other) {
        if (!in(years, 0, 40) || !isClerk(clerk) || !isClerk(other) || clerk == other) return no(1);
        return yes(likes(years, clerk, other) ? 1 : 0);
    }

    /** {years, corner}, or null. */
    int[] soonest(int clerk, int rank) {
        for (int y = 0; y <= 99; y++) {
            int own = b.clerks.get(clerk).corner;
            if (after(b, y).clerks.get(clerk).looks() >= b.ranks.get(rank).at()) return new int[] {y, own};
            for (int k = 0; k < b.stills.size(); k++) {
                if (b.sitter(k) != null) continue;
                Bank x = b.copy();
                x.toCorner(x.clerks.get(clerk), k);
                if (after(x, y).clerks.get(clerk).looks() >= b.ranks.get(rank).at()) return new int[] {y, k};
            }
        }
        return null;
    }

    public int soon(int clerk, int rank) {
        if (!isClerk(clerk) || !isRank(rank)) return no(1);
        int[] s = soonest(clerk, rank);
        return s == null ? no(6) : yes(s[0]);
    }

    public int soonAt(int clerk, int rank) {
        if (!isClerk(clerk) || !isRank(rank)) return no(1);
        int[] s = soonest(clerk, rank);
        return s == null ? no(6) : yes(s[1]);
    }

    int payIn(Bank from, int clerk, int years) {
        Bank x = from.copy();
        int all = 0;
        for (int y = 0; y < years; y++) {
            int r = x.rankBy(x.clerks.get(clerk).looks());
            if (r >= 0) all += x.ranks.get(r).pay();
            x.oneYear();
        }
        return all;
    }

    public int worth(int clerk, int much, int years) {
        if (!isClerk(clerk) || !in(much, 0, 99) || !in(years, 0, 40)) return no(1);
        Bank x = b.copy();
        x.clerks.get(clerk).sham = Math.min(99, x.clerks.get(clerk).sham + much);
        return yes(payIn(x, clerk, years) - payIn(b, clerk, years));
    }

    public int leastFan(int clerk, int rank) {
        if (!isClerk(clerk) || !isRank(rank)) return no(1);
        for (int m = 0; m <= 99; m++) {
            Clerk c = b.clerks.get(clerk).copy();
            c.sham = Math.min(99, c.sham + m);
            if (b.rankBy(c.looks()) >= rank) return yes(m);
        }
        throw new IllegalStateException();
    }

    int badTwos(int tray, int n) {
        if (!in(tray, 0, 3) || !in(n, 0, 20)) return 1;
        if (trays[tray] == null) return 2;
        if (trays[tray].length < 2 * n) return 3;
        for (int i = 0; i < 2 * n; i++) if (trays[tray][i] < 0 || trays[tray][i] > 99) return 5;
        return 0;
    }

    static int grown(int still, int years) {
        int g = 0;
        for (int y = 0; y < years; y++) g = Math.min(99, g + still);
        return g;
    }

    List<Integer> fitting(int tray, int n) {
        List<Integer> all = new ArrayList<>();
        for (int s = 0; s <= 9; s++) {
            boolean ok = true;
            for (int i = 0; i < n; i++) ok &= grown(s, (int) trays[tray][2 * i]) == trays[tray][2 * i + 1];
            if (ok) all.add(s);
        }
        return all;
    }

    public int fits(int tray, int n) {
        int bad = badTwos(tray, n);
        return bad != 0 ? no(bad) : yes(fitting(tray, n).size());
    }

    public int fitsAt(int tray, int n, int k) {
        if (k < 0) return no(1);
        int bad = badTwos(tray, n);
        if (bad != 0) return no(bad);
        return k >= fitting(tray, n).size() ? no(6) : yes(fitting(tray, n).get(k));
    }

    public int ask(int tray, int n) {
        int bad = badTwos(tray, n);
        if (bad != 0) return no(bad);
        List<Integer> all = fitting(tray, n);
        if (all.size() < 2) return no(6);
        int best = 0, fewest = 99;
        for (int y = 20; y >= 1; y--) {
            int[] with = new int[100];
            for (int s : all) with[grown(s, y)]++;
            int most = Arrays.stream(with).max().getAsInt();
            if (most <= fewest) {
                fewest = most;
                best = y;
            }
        }
        return yes(best);
    }

    public int comes() {
        return yes(b.coming(0));
    }

    public int comesFor() {
        return yes(b.sums(b.coming(0)));
    }

    int calmed() {
        for (int size = 0; ; size++) {
            for (int set = 0; set < 1 << b.clients.size(); set++) {
                if (Integer.bitCount(set) == size && b.sums(b.coming(set)) <= b.cash) return set;
            }
        }
    }

    public int calms() {
        return yes(Integer.bitCount(calmed()));
    }

    public int calmSet() {
        return yes(calmed());
    }

    int play(Bank x, int rank, int turn, int n, int chosen) {
        if (turn == n) {
            int count = 0;
            for (Clerk c : x.clerks) if (x.rankBy(c.looks()) >= rank) count++;
            return count;
        }
        int best = play(x, rank, turn + 1, n, chosen);
        for (int i = 0; i < x.clerks.size(); i++) {
            if ((chosen >> i & 1) == 1) continue;
            int v = playOne(x, i, rank, turn, n, chosen);
            best = turn % 2 == 0 ? Math.max(best, v) : Math.min(best, v);
        }
        return best;
    }

    int playOne(Bank x, int i, int rank, int turn, int n, int chosen) {
        Clerk c = x.clerks.get(i);
        int old = c.grey;
        c.grey = turn % 2 == 0 ? Math.min(99, old + x.stills.get(c.corner)) : old / 2;
        int v = play(x, rank, turn + 1, n, chosen | 1 << i);
        c.grey = old;
        return v;
    }

    public int game(int rank, int n) {
        if (!isRank(rank) || !in(n, 0, 4)) return no(1);
        return yes(play(b.copy(), rank, 0, n, 0));
    }

    public int who(int rank, int n) {
        if (!isRank(rank) || !in(n, 1, 4)) return no(1);
        Bank x = b.copy();
        int best = play(x, rank, 0, n, 0);
        for (int i = 0; i < x.clerks.size(); i++) if (playOne(x, i, rank, 0, n, 0) == best) return yes(i);
        return no(6);
    }

    public boolean shams(int k) {
        if (!in(k, 0, 6)) return not(1);
        int n = b.clerks.size();
        BigInteger good = BigInteger.ZERO;
        for (int j = k; j <= n; j++) {
            BigInteger ways = BigInteger.ONE;
            for (int i = 0; i < j; i++) ways = ways.multiply(big(n - i)).divide(big(i + 1));
            good = good.add(ways.multiply(big(b.odds).pow(j)).multiply(big(16 - b.odds).pow(n - j)));
        }
        return fraction(good, big(16).pow(n));
    }

    static BigInteger big(long v) {
        return BigInteger.valueOf(v);
    }

    public boolean share(int clerk) {
        if (!isClerk(clerk)) return not(1);
        if (b.grey() == 0) return not(6);
        return fraction(big(b.clerks.get(clerk).grey), big(b.grey()));
    }

    public int copyGrey(int tray) {
        if (!in(tray, 0, 3)) return no(1);
        if (trays[tray] == null) return no(2);
        if (trays[tray].length < b.clerks.size()) return no(3);
        for (int i = 0; i < b.clerks.size(); i++) trays[tray][i] = b.clerks.get(i).grey;
        return yes(b.clerks.size());
    }

    public int live(int seed) {
        if (!in(seed, 0, 9999)) return no(1);
        if (d == null) return no(6);
        latest = new Life();
        latest.live(b, d, seed);
        return yes(latest.steps);
    }

    public int lived(int what) {
        if (!in(what, 0, 4)) return no(1);
        if (latest == null) return no(6);
        return yes(new int[] {latest.missed, latest.years, latest.paid, latest.given, latest.left}[what]);
    }

    public boolean mean(int seed, int many) {
        if (!in(seed, 0, 9999) || !in(many, 1, 20) || !in(seed + many - 1, 0, 9999)) return not(1);
        if (d == null) return not(6);
        long all = 0;
        for (int i = 0; i < many; i++) {
            Bank x = b.copy();
            new Life().live(x, d, seed + i);
            all += x.grey();
        }
        return fraction(big(all), big(many));
    }

    public int mark() {
        if (marks.size() == 3) return no(4);
        marks.add(new Kept(b.copy(), d));
        return yes(marks.size());
    }

    public int undo() {
        if (marks.isEmpty()) return no(6);
        Kept k = marks.remove(marks.size() - 1);
        b = k.bank().copy();
        d = k.decades();
        return yes(marks.size());
    }
}
