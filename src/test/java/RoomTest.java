import com.sun.management.ThreadMXBean;
import java.lang.management.ManagementFactory;

/** What a run makes is made with the object: no call makes anything, and an object itself is small. */
public final class RoomTest {
    private static final int ROUNDS = 4000;
    private static final Due DUE = new Due();

    public static void main(String[] args) {
        ThreadMXBean threads = (ThreadMXBean) ManagementFactory.getThreadMXBean();
        FriezePolygons x = new FriezePolygons();
        String text = "t9;" + "o9;".repeat(8) + "d0,2;d0,3;d0,4;d0,5;d0,6;d0,7;";
        long sum = round(x, text);
        long self = Thread.currentThread().getId();
        long before = threads.getThreadAllocatedBytes(self);
        for (int i = 0; i < ROUNDS; i++) {
            sum += round(x, text);
        }
        long made = threads.getThreadAllocatedBytes(self) - before;
        // what the measuring itself makes is far below one small object a round
        DUE.holds("calls make " + made + " bytes in " + ROUNDS + " rounds (sum " + sum + ")", made < ROUNDS * 8L);

        before = threads.getThreadAllocatedBytes(self);
        FriezePolygons[] many = new FriezePolygons[1000];
        for (int i = 0; i < many.length; i++) {
            many[i] = new FriezePolygons();
        }
        long each = (threads.getThreadAllocatedBytes(self) - before) / many.length;
        DUE.holds("an object has " + each + " bytes", each < 16000);
        DUE.end();
    }

    private static long round(FriezePolygons x, String text) {
        Due.feed(x, text);
        long sum = x.polygon();
        x.row(0, 0, 9);
        for (int c = 0; c < 9; c++) {
            sum += x.corner(c, 0) + x.corner(c, 3) + x.piece(c) + x.kind(c) + x.as(c, 1) + x.ask(c, 0) + x.ask(c, 1);
            sum += x.frieze(c, 20) + x.trace(c) + x.become(c, 1) + x.number(c, c);
            sum += x.set(0, c, c == 1 ? 7 : c == 0 || c == 2 ? 1 : 2);
        }
        x.set(0, 0, 1);
        sum += x.back(0, 0) + x.flips(0) + x.lay(0) + x.copy(0, 0, 0, 1, 8) + x.who(0, 0, 0, 0, 3);
        sum += x.who(0, 1, 0, 0, 3) + x.who(0, 2, 0, 0, 3) + x.drop(0) + x.ways() + x.likes(0) + x.likes(1);
        for (int what = 0; what < 9; what++) {
            sum += x.whole(what) + x.count(what) + x.cutOf(what, 3);
        }
        sum += x.sets(10, 0) + x.lost(4, 3, 0) + x.drawn(60, 77, 1) + x.image(0) + x.turn(1) + x.mirror();
        sum += x.flip(3) + x.join(4) + x.cut(0, 4) + x.undo() + x.restore(0) + x.fault() + x.status();
        return sum;
    }
}
