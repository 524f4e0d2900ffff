import com.sun.management.ThreadMXBean;
import java.lang.management.ManagementFactory;

/** Calls make nothing: what an object needs is made with it, and little enough for many objects. */
final class RoomTest {
    public static void main(String[] args) {
        ThreadMXBean threads = (ThreadMXBean) ManagementFactory.getThreadMXBean();
        long id = Thread.currentThread().getId();
        HassockRoof x = full();
        long sum = calls(x);
        long before = threads.getThreadAllocatedBytes(id);
        sum += calls(x);
        long made = threads.getThreadAllocatedBytes(id) - before;
        Check.holds("calls made " + made + " bytes", made < 2000);
        before = threads.getThreadAllocatedBytes(id);
        HassockRoof y = new HassockRoof();
        made = threads.getThreadAllocatedBytes(id) - before;
        Check.holds("an object takes " + made + " bytes", made < 40000 && y.count(0) == 0);
        Check.holds("calls are alike", sum % 2 == 0);
        Check.finish();
    }

    private static HassockRoof full() {
        StringBuilder text = new StringBuilder("roof years 12 law 3 odds 5;");
        for (int i = 0; i < 6; i++) {
            text.append("place ").append(i).append(" 0;flue ").append(i).append(" 1;");
        }
        for (int i = 0; i < 7; i++) {
            text.append("mark ").append(i).append(" 2 worth ").append(10 + i).append(";");
        }
        for (int i = 0; i < 10; i++) {
            text.append("way ").append(i % 5).append(" 5;");
        }
        for (int i = 0; i < 5; i++) {
            text.append("looker at ").append(i).append(" hopes ").append(i).append(";");
        }
        HassockRoof x = Check.told(text.toString());
        x.row(0, 0, 5);
        for (int i = 0; i < 5; i++) {
            x.write(0, i, 5 - i);
        }
        x.row(1, 0, 0);
        return x;
    }

    private static long calls(HassockRoof x) {
        long sum = x.roster() + x.rosters() + x.put(0) + x.fair() + x.shifts(0) + x.first(0) + x.reach() + x.far();
        sum += x.lot(0, 0, 0) + x.share(0, 0) + x.all(3) + x.watch() + x.watches() + x.firsts(1, 0) + x.ask(1, 0);
        sum += x.leaves(1, 0) + x.laws(1, 0) + x.by(2) + x.law() + x.fell() + x.rests(0, 1) + x.gets(0, 1, 1, 1);
        sum += x.chance(0, 0, 8, 0) + x.mean(0, 8, 0) + x.swap(0, 1, 0) + x.clear(0) + x.undo() + x.anew();
        sum += x.drawn(5, 1) + x.luck(5, 20, 0) + x.rate(0, 10) + x.image(0) + x.back(0) + x.sad() + x.feast();
        sum += x.round() + x.trade(1) + x.blind() + x.lost() + x.best() + x.row(2, 0, 60) + x.write(2, 1, 1);
        return sum + x.paste(2, 0, 2, 1, 5);
    }
}
