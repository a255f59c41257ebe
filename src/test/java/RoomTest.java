import com.sun.management.ThreadMXBean;
import java.lang.management.ManagementFactory;

/** A new object takes little room, and no call behind it takes any. */
public final class RoomTest {
    private static final int MOST_BYTES_OF_ONE = 64 * 1024;
    private static final int OBJECTS = 20;
    /** A round is some 80 calls: no object has more than 512. */
    private static final int ROUNDS = 5;
    private static final String BANK = "odds 8;cash 900;corner still 3;corner still 0;corner still 9;corner still 5;corner "
        + "still 1;corner still 2;corner still 4;rank at 10 pay 2;rank at 30 pay 5;clerk a in 0 grey 9 sham 4;clerk b in 1 "
        + "grey 29;clerk c in 2;clerk d in 3;clerk e in 4;client sum 10 nerve 0;client sum 5 nerve 10;";
    private static final String DECADES = "loop 9;any;when cash>3;run;swap a b;fan c 3;end;loop 9;year 1;end;end;";
    private static final int[][] BANK_FEEDS = Texts.feeds(BANK);
    private static final int[][] DECADES_FEEDS = Texts.feeds(DECADES);

    private static long taken() {
        return ((ThreadMXBean) ManagementFactory.getThreadMXBean()).getCurrentThreadAllocatedBytes();
    }

    private static void feed(WebBank x, int[][] feeds) {
        for (int i = 0; i < feeds.length; i++) {
            x.feed(feeds[i][0], feeds[i][1], feeds[i][2], feeds[i][3], feeds[i][4]);
        }
    }

    private static long callAll(WebBank x) {
        feed(x, BANK_FEEDS);
        long sum = x.bank(BANK.length());
        feed(x, DECADES_FEEDS);
        sum += x.decades(DECADES.length()) + x.mark() + x.live(5) + x.lived(1) + x.fault(0) + x.told(9) + x.rank(0, 2);
        sum += x.corner(0, 1) + x.clerk(0, 4) + x.rankOf(0) + x.client(0, 0) + x.year(3) + x.move(0, 5) + x.swap(0, 1);
        sum += x.fan(0, 3) + x.look(0) + x.dust(0) + x.hire(0) + x.open(9, 0) + x.calm(0, 1) + x.run() + x.greyIn(0, 9);
        sum += x.rankIn(0, 9) + x.unpaidIn() + x.cashIn(40) + x.seating(40) + x.seatOf(40, 5) + x.liked(9);
        sum += x.isLiked(9, 0, 1) + x.soon(0, 1) + x.soonAt(0, 1) + x.worth(0, 9, 40) + x.leastFan(0, 1);
        x.tray(0, 1, 60);
        x.tray(1, 1, 60);
        x.write(0, 1, 99);
        x.pour(0, 0, 1, 1, 30);
        x.shams(2);
        x.share(1);
        x.mean(7, 20);
        sum += x.read(0, 1) + x.fits(0, 9) + x.fitsAt(0, 1, 0) + x.ask(0, 0) + x.comes() + x.comesFor() + x.calms();
        sum += x.calmSet() + x.game(1, 4) + x.who(1, 4) + x.copyGrey(0) + x.undo();
        return sum + x.status() + x.top() + x.bottom();
    }

    public static void main(String[] args) {
        WebBank warm = new WebBank();
        callAll(warm);
        taken();
        long before = taken();
        WebBank x = new WebBank();
        long one = taken() - before;
        WebBank[] all = new WebBank[OBJECTS];
        for (int i = 0; i < OBJECTS; i++) all[i] = new WebBank();
        before = taken();
        for (int i = 0; i < OBJECTS; i++) for (int round = 0; round < ROUNDS; round++) callAll(all[i]);
        long calls = taken() - before;
        System.out.println("a new object takes " + one + " bytes, all rounds of all calls " + calls);
        if (one > MOST_BYTES_OF_ONE || calls > 1024) {
            System.out.println("that is too much");
            System.exit(1);
        }
    }
}
