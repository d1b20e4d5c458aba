import java.lang.management.ManagementFactory;

/** All calls of a run live in one room: an object is made small, and no call makes anything. */
public final class RoomTest {
    private static final Kit KIT = new Kit("RoomTest");
    private static final String YARD =
        "spot a shade 1; spot b shade 2; spot c shade 3; spot d shade 4; spot e shade 5; spot f shade 6;"
        + "carver g ayes skill 1; carver h ayes skill 2; carver i noes skill 3; carver j noes skill 4; carver k noes skill 5;"
        + "act p plain feet 20 chips 9 worth 3 by g; act q hollow feet 19 chips 9 worth 4 by h; act r thin feet 18 chips 8 worth 5 by i;"
        + "act s old feet 17 chips 20 worth 6 by j; act t plain feet 16 chips 30 worth 7 by k; act u plain feet 9 chips 9 worth 8 by k;"
        + "clash p q; clash r s; nights 3 4 5; mild 4; melts warmth - dark; carves able + tall - done;";

    private static long allocated() {
        return ((com.sun.management.ThreadMXBean) ManagementFactory.getThreadMXBean()).getCurrentThreadAllocatedBytes();
    }

    public static void main(String[] args) {
        all(Kit.with(YARD));
        long before = allocated();
        IceParliament[] kept = new IceParliament[100];
        for (int i = 0; i < kept.length; i++) {
            kept[i] = new IceParliament();
        }
        long each = (allocated() - before) / kept.length;
        KIT.due("an object takes " + each + " bytes, 64 KiB at most", each <= 65536, true);
        IceParliament x = Kit.with(YARD);
        before = allocated();
        for (int i = 0; i < 5; i++) {
            all(x);
        }
        long calls = allocated() - before;
        KIT.due("five rounds of all calls make " + calls + " bytes, next to nothing", calls <= 4096, true);
        KIT.finish();
    }

    private static void all(IceParliament x) {
        Kit.yard(x, YARD);
        Kit.session(x, "begin p a; carve g p; night; prop p; torch p; night;");
        for (int i = 0; i < 6; i++) {
            x.begin(i, i);
            x.carve(i, i);
            x.prop(i);
            x.torch(i);
            x.tell(i, 9);
            x.act(i, 8);
            x.carver(i, 2);
            x.falls(i);
            x.thin(i, i, 30);
            x.stands(i, 8);
            x.places(i);
            x.work(6, i);
            x.count(i);
        }
        for (int i = 0; i < 3; i++) {
            x.judged(i);
            x.sets(i);
            x.mend(i);
            x.decades(i, 60, i);
            x.rests(3, 5, 0, i);
            x.side(i);
            x.mark(i, false);
        }
        x.look();
        x.propped(30);
        x.force();
        x.clashes();
        for (int i = 0; i < 20; i++) {
            x.night();
        }
        for (int i = 0; i < 20; i++) {
            x.undo();
        }
        x.mark(1, true);
    }
}
