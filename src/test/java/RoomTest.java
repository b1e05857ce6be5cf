import com.sun.management.ThreadMXBean;
import java.lang.management.ManagementFactory;
import java.util.function.IntConsumer;

/** The room: an object is small, and no call makes any object or array. */
public final class RoomTest {
    public static void main(String[] args) {
        Checks.begin("room");
        SolesByWhatIsTold x = new SolesByWhatIsTold();
        for (int i = 0; i < 5; i++) {
            x.walker(i, 9, 255);
        }
        x.image();
        String letters = "lasts 900 + day ; paces 1 + (0 < told) - - 1 ; stops not 1 or 0 and 0 ;";
        none("an object", 60_000, i -> new SolesByWhatIsTold());
        none("text", 0, i -> {
            for (int j = 0; j < letters.length(); j++) {
                x.feed(letters.charAt(j));
            }
            x.force(Math.max(0, x.text()));
        });
        none("a fault", 0, i -> {
            x.feed('l');
            x.text();
        });
        none("set", 0, i -> x.set(1, i & 7, 1 << (i & 7)));
        none("told", 0, i -> x.told(i % 6, i % 14));
        none("day", 0, i -> x.day());
        none("run", 0, i -> x.run(i % 6, 40, i & 3));
        none("mend", 0, i -> x.mend(i % 6));
        none("far", 0, i -> x.far(i % 6, 40, 0));
        none("least", 0, i -> x.least(i % 6, 500, 0));
        none("heaviest", 0, i -> x.heaviest(i & 7, i % 6, 900));
        none("away", 0, i -> x.away(900, 0));
        none("keeper", 0, i -> x.keeper(40, 0));
        none("spare", 0, i -> x.spare(i % 6, 40));
        none("film", 0, i -> x.film(i & 3, i % 6, 40));
        none("tells", 0, i -> x.tells(i & 3, i % 6, i & 7));
        none("drawn", 0, i -> x.drawn(i, 40));
        none("chance", 0, i -> x.chance(i, 20, 0));
        none("image", 0, i -> x.image());
        none("back", 0, i -> x.back());
        none("count", 0, i -> x.count(i & 7));
        none("sheet", 0, i -> x.sheet(i & 3, 1, i % 41));
        none("cell", 0, i -> x.cell(i & 3, i % 41, i));
        none("copy", 0, i -> x.copy(i & 3, 0, i + 1 & 3, 0, 1));
        none("walkers", 0, i -> x.walkers(i & 3, 1, 0, 6));
        none("taken", 0, i -> x.taken(i % 6, 0));
        Checks.end();
    }

    /** Bytes a call, told of 512 calls; what the machine itself makes now and then is left out by five tries. */
    private static void none(String name, long most, IntConsumer call) {
        ThreadMXBean threads = (ThreadMXBean) ManagementFactory.getThreadMXBean();
        long least = Long.MAX_VALUE;
        for (int t = 0; t < 5; t++) {
            long before = threads.getCurrentThreadAllocatedBytes();
            for (int i = 0; i < 512; i++) {
                call.accept(i);
            }
            least = Math.min(least, (threads.getCurrentThreadAllocatedBytes() - before) / 512);
        }
        Checks.yes(name + " makes at most " + most + " bytes a call: " + least, least <= most);
    }
}
