import java.nio.ByteBuffer;

/** Promises 18 to 20: journal, touch, isSound. */
public final class JournalTest {
    private static final Due DUE = new Due("JournalTest");

    public static void main(String[] args) {
        entriesAndLinks();
        touchTurnsBits();
        thirtyAreKept();
        refuses();
        DUE.end();
    }

    private static long link(long before, int folder, int version, int reason, int item) {
        ByteBuffer bytes = ByteBuffer.allocate(13).putLong(before);
        bytes.put((byte) folder).putShort((short) version).put((byte) reason).put((byte) item);
        return Wire.hash(bytes.array());
    }

    /** One entry with each packet: versions without files, each released or rejected as it comes. */
    private static Wire withEntries(int entries) {
        Wire w = Wire.withSlot();
        for (int k = 0; k < entries; k++) {
            w.hearItem(k % 2, 300 + k, 0, Wire.manifest(300 + k));
            w.link.release(k % 2);
        }
        return w;
    }

    private static void entriesAndLinks() {
        Wire w = Wire.withSlot();
        w.link.rule(0, 2, true);
        w.hearVersion(1, 300, "a", Wire.bytes("abc"));
        w.hearVersion(1, 301, "a", Wire.bytes("ab"));
        DUE.is("release", w.link.release(1), 301);
        w.link.release(1);
        long[][] wanted = {{1, 300, 1, 1, link(0, 1, 300, 1, 1)}, {1, 301, 0, 0, 0}};
        wanted[1][4] = link(wanted[0][4], 1, 301, 0, 0);
        for (int what = 0; what < 5; what++) {
            DUE.is("entries, what " + what, w.link.journal(-1, what), 2);
            DUE.is("entry 0, what " + what, w.link.journal(0, what), wanted[0][what]);
            DUE.is("entry 1, what " + what, w.link.journal(1, what), wanted[1][what]);
        }
        DUE.is("sound", w.link.isSound(), true);
    }

    private static void touchTurnsBits() {
        Wire w = withEntries(3);
        DiodeLink x = w.link;
        for (int what = 0; what < 4; what++) {
            for (int k = 0; k < 3; k++) {
                long before = x.journal(k, what);
                long link = x.journal(k, 4);
                x.touch(k, what, 0x181);
                DUE.is("the lowest 8 bits are turned", x.journal(k, what), before ^ 0x81);
                DUE.is("the link stands", x.journal(k, 4), link);
                DUE.is("not sound", x.isSound(), false);
                x.touch(k, what, 0x81);
                DUE.is("turned again", x.journal(k, what), before);
                DUE.is("sound again", x.isSound(), true);
            }
        }
        x.touch(0, 0, 256);
        DUE.is("no bit of the lowest 8", x.isSound(), true);
        x.touch(1, 1, -1);
        DUE.is("version", x.journal(1, 1), 301 ^ 255);
        long last = x.journal(2, 4);
        w.hearItem(1, 400, 0, Wire.manifest(400));
        x.release(1);
        DUE.is("the next link hangs on the last one", x.journal(3, 4), link(last, 1, 400, 0, 0));
        DUE.is("not sound still", x.isSound(), false);
        DUE.is("touch changes no version", x.have(1, 301), 5);
    }

    private static void thirtyAreKept() {
        Wire w = withEntries(33);
        DiodeLink x = w.link;
        DUE.is("entries", x.journal(-1, 0), 33);
        long link = 0;
        for (int k = 0; k < 33; k++) {
            int entry = k;
            link = link(link, k % 2, 300 + k, 0, 0);
            if (k < 3) {
                DUE.refusesIndex("entry " + k, () -> x.journal(entry, 0));
                DUE.refusesIndex("touch of entry " + k, () -> touch(x, entry, 0));
            } else {
                DUE.is("folder of entry " + k, x.journal(k, 0), k % 2);
                DUE.is("version of entry " + k, x.journal(k, 1), 300 + k);
                DUE.is("link of entry " + k, x.journal(k, 4), link);
            }
        }
        DUE.is("sound", x.isSound(), true);
        x.touch(3, 0, 1);
        DUE.is("the first kept one is touched", x.isSound(), false);
        w.hearItem(1, 333, 0, Wire.manifest(333));
        x.release(1);
        DUE.is("it is not kept any more", x.isSound(), true);
        DUE.refusesIndex("entry 3", () -> x.journal(3, 1));
        x.touch(33, 2, 1);
        DUE.is("the last one is touched", x.isSound(), false);
    }

    private static long touch(DiodeLink x, int k, int what) {
        x.touch(k, what, 1);
        return 0;
    }

    private static void refuses() {
        DiodeLink x = withEntries(1).link;
        for (int what : new int[] {-1, 5, Integer.MIN_VALUE, Integer.MAX_VALUE}) {
            DUE.refusesArgument("journal(0, " + what + ")", () -> x.journal(0, what));
            DUE.refusesArgument("journal(-1, " + what + ")", () -> x.journal(-1, what));
            DUE.refusesArgument("journal(7, " + what + ")", () -> x.journal(7, what));
        }
        for (int what : new int[] {-1, 4, Integer.MAX_VALUE}) {
            DUE.refusesArgument("touch(0, " + what + ")", () -> touch(x, 0, what));
            DUE.refusesArgument("touch(7, " + what + ")", () -> touch(x, 7, what));
        }
        for (int k : new int[] {-2, 1, 30, Integer.MIN_VALUE, Integer.MAX_VALUE}) {
            DUE.refusesIndex("journal(" + k + ", 0)", () -> x.journal(k, 0));
            DUE.refusesIndex("touch(" + k + ", 0)", () -> touch(x, k, 0));
        }
        DUE.refusesIndex("touch(-1, 0)", () -> touch(x, -1, 0));
        DUE.is("sound", x.isSound(), true);
    }
}
