import java.nio.ByteBuffer;

/** Promises 18 to 20: journal, touch, isSound. */
public final class JournalTest {
    private static final Due DUE = new Due("JournalTest");
    private static final int[] EDGES = {Integer.MIN_VALUE, Integer.MAX_VALUE};

    public static void main(String[] args) {
        entriesOfRejectedAndReleased();
        linksAreChained();
        howManyThereWere();
        journalRefusesNumbers();
        journalRefusesEntries();
        thirtyAreKept();
        theLinkBeforeThemIsKept();
        touchTurnsBits();
        touchTurnsTheLowestEight();
        touchRefuses();
        soundOrNot();
        linksStandWhenTouched();
        DUE.end();
    }

    private static long link(long before, int folder, int version, int reason, int item) {
        ByteBuffer bytes = ByteBuffer.allocate(13).putLong(before);
        bytes.put((byte) folder).putShort((short) version).put((byte) reason).put((byte) item);
        return Wire.hash(bytes.array());
    }

    /** Versions without files, each released as it comes: folders by turns, so entry k is of k / 2 + 1. */
    private static DiodeLink withEntries(int entries) {
        DiodeLink x = new DiodeLink();
        for (int k = 0; k < entries; k++) {
            addEntry(x, k);
        }
        return x;
    }

    /** Folder 0 has two packets before those of folder 1. */
    private static void addEntry(DiodeLink x, int k) {
        x.commit(k % 2);
        int slot = x.send();
        for (int skipped = 0; skipped < 2 && k % 2 == 1; skipped++) {
            slot = x.send();
        }
        x.hear(slot);
        x.release(k % 2);
    }

    private static int versionOf(int k) {
        return k / 2 + 1;
    }

    private static long touch(DiodeLink x, int k, int what, int bits) {
        x.touch(k, what, bits);
        return 0;
    }

    // ---- terms

    private static void isEntry(DiodeLink x, int k, int... wanted) {
        for (int what = 0; what < 4; what++) {
            DUE.is("number " + what + " of entry " + k, x.journal(k, what), wanted[what]);
        }
    }

    private static void entriesOfRejectedAndReleased() {
        DUE.says("THE JOURNAL has an entry for each version that is rejected or released, of 4 numbers (folder, "
            + "version, reason: 0 released, 1 + kind; the file's item, 0 for none or rule 1)");
        Wire w = Wire.withSlot();
        w.link.rule(0, 5, true);
        w.link.rule(1, 2, true);
        w.link.rule(2, 'z', true);
        w.link.rule(3, 'y', true);
        byte[] x = Wire.bytes("x");
        w.hearVersion(0, 1, "a", x, "b", Wire.bytes("longer"));
        w.hearVersion(1, 2, "a", x, "b", x, "c", x);
        w.hearVersion(0, 3, "a", x, "bz", x);
        w.hearVersion(1, 65535, "a", Wire.bytes("y"));
        w.hearVersion(0, 5, "a", x);
        DUE.is("four are rejected, the fifth is only whole", w.link.journal(-1, 0), 4);
        w.link.release(0);
        isEntry(w.link, 0, 0, 1, 1, 2);
        isEntry(w.link, 1, 1, 2, 2, 0);
        isEntry(w.link, 2, 0, 3, 3, 2);
        isEntry(w.link, 3, 1, 65535, 4, 1);
        isEntry(w.link, 4, 0, 5, 0, 0);
    }

    private static void linksAreChained() {
        DUE.says("a LINK: the hash of the link before (8 bytes; 0 at first) and these four (a byte, two, one, one)");
        Wire w = Wire.withSlot();
        w.link.rule(0, 2, true);
        w.hearVersion(1, 300, "a", Wire.bytes("abc"));
        w.hearVersion(1, 301, "a", Wire.bytes("ab"));
        DUE.is("release", w.link.release(1), 301);
        long first = link(0, 1, 300, 1, 1);
        DUE.is("the first link", w.link.journal(0, 4), first);
        DUE.is("the second link", w.link.journal(1, 4), link(first, 1, 301, 0, 0));
        // The hash of 00 00 00 00 00 00 00 00 00 00 01 00 00, reckoned apart from all code here.
        Wire v = Wire.withSlot();
        v.hearItem(0, 1, 0, Wire.manifest(1));
        v.link.release(0);
        DUE.is("the link of version 1 of folder 0, released", v.link.journal(0, 4), 0x73ec9c9f5df2ea84L);
    }

    private static void thirtyAreKept() {
        DUE.says("The latest 30 are kept");
        DiodeLink x = withEntries(29);
        for (int entries = 30; entries <= 33; entries++) {
            addEntry(x, entries - 1);
            int first = entries - 30;
            DUE.is("the first one of " + entries, x.journal(first, 1), versionOf(first));
            DUE.is("the last one of " + entries, x.journal(entries - 1, 1), versionOf(entries - 1));
            DUE.refusesIndex("the next one", () -> x.journal(first + 30, 1));
            if (first > 0) {
                DUE.refusesIndex("the one before", () -> x.journal(first - 1, 1));
                DUE.refusesIndex("its link", () -> x.journal(first - 1, 4));
                DUE.refusesIndex("touch of the one before", () -> touch(x, first - 1, 1, 1));
                DUE.refusesIndex("entry 0", () -> x.journal(0, 0));
            }
        }
        for (int k = 3; k < 33; k++) {
            isEntry(x, k, k % 2, versionOf(k), 0, 0);
        }
    }

    private static void theLinkBeforeThemIsKept() {
        DUE.says("The latest 30 are kept, and the link before them.");
        DiodeLink x = withEntries(30);
        long before = 0;
        for (int k = 0; k < 30; k++) {
            before = link(before, k % 2, versionOf(k), 0, 0);
            DUE.is("link " + k, x.journal(k, 4), before);
        }
        for (int k = 30; k < 65; k++) {
            addEntry(x, k);
            before = link(before, k % 2, versionOf(k), 0, 0);
            DUE.is("link " + k, x.journal(k, 4), before);
            DUE.is("sound with " + (k + 1), x.isSound(), true);
        }
        x.touch(35, 3, 1);
        DUE.is("the first kept one is touched", x.isSound(), false);
        addEntry(x, 65);
        DUE.is("it is not kept any more", x.isSound(), true);
    }

    // ---- promise 18

    private static void howManyThereWere() {
        DUE.says("k -1: how many there were");
        DiodeLink x = new DiodeLink();
        for (int entries = 0; entries < 34; entries++) {
            for (int what = 0; what < 5; what++) {
                DUE.is("entries, what " + what, x.journal(-1, what), entries);
            }
            addEntry(x, entries);
        }
    }

    private static void journalRefusesNumbers() {
        DUE.says("Of entry k of the journal (0 the first one ever) its four numbers (what 0 .. 3), 4 its link");
        DiodeLink x = withEntries(1);
        for (int what : new int[] {-1, 5, 6, 256, EDGES[0], EDGES[1]}) {
            DUE.refusesArgument("journal(0, " + what + ")", () -> x.journal(0, what));
            DUE.refusesArgument("journal(-1, " + what + ")", () -> x.journal(-1, what));
            DUE.refusesArgument("journal(7, " + what + ")", () -> x.journal(7, what));
        }
        for (int what = 0; what <= 4; what++) {
            int number = what;
            DUE.is("journal(0, " + what + ")", Due.thrownBy(() -> x.journal(0, number)), "nothing");
        }
    }

    private static void journalRefusesEntries() {
        DUE.says("IllegalArgumentException: no such what; IndexOutOfBoundsException: it is not kept.");
        DiodeLink empty = new DiodeLink();
        DiodeLink x = withEntries(2);
        for (int what = 0; what <= 4; what++) {
            int number = what;
            DUE.refusesIndex("entry 0 of none", () -> empty.journal(0, number));
            for (int k : new int[] {-2, -30, 2, 3, 30, 32, EDGES[0], EDGES[1]}) {
                DUE.refusesIndex("journal(" + k + ", " + what + ")", () -> x.journal(k, number));
            }
        }
        DUE.is("entry 0 is the first one ever", x.journal(0, 0), 0);
        DUE.is("entry 1", x.journal(1, 0), 1);
    }

    // ---- promises 19 and 20

    private static void touchTurnsBits() {
        DUE.says("turns bits of number what (0 .. 3) of an entry (the lowest 8)");
        DiodeLink x = withEntries(3);
        for (int what = 0; what < 4; what++) {
            for (int k = 0; k < 3; k++) {
                long before = x.journal(k, what);
                long other = x.journal((k + 1) % 3, what);
                x.touch(k, what, 0x81);
                DUE.is("bits are turned", x.journal(k, what), before ^ 0x81);
                DUE.is("those of another entry are not", x.journal((k + 1) % 3, what), other);
                DUE.is("nor another number", x.journal(k, (what + 1) % 4), numberOf(k, (what + 1) % 4));
                x.touch(k, what, 0x81);
                DUE.is("turned again", x.journal(k, what), before);
            }
        }
        DUE.is("touch changes no version", x.have(1, 1), 4);
        DUE.is("nor how many there were", x.journal(-1, 0), 3);
    }

    private static long numberOf(int k, int what) {
        return new long[] {k % 2, versionOf(k), 0, 0}[what];
    }

    private static void touchTurnsTheLowestEight() {
        DUE.says("(the lowest 8)");
        DiodeLink x = withEntries(2);
        for (int bits : new int[] {0x100, 0x1FF, -256, -1, 0x7FFFFF00, EDGES[0], EDGES[1], 0}) {
            long before = x.journal(1, 1);
            x.touch(1, 1, bits);
            DUE.is("bits " + bits, x.journal(1, 1), before ^ bits & 255);
            DUE.is("sound when none of the lowest 8 is turned", x.isSound(), (bits & 255) == 0);
            x.touch(1, 1, bits & 255);
        }
    }

    private static void touchRefuses() {
        DUE.says("Test-side: turns bits of number what (0 .. 3) of an entry (the lowest 8). IllegalArgumentException: "
            + "no such what; IndexOutOfBoundsException: it is not kept.");
        DiodeLink empty = new DiodeLink();
        DUE.refusesIndex("entry 0 of none", () -> touch(empty, 0, 0, 1));
        DiodeLink x = withEntries(1);
        for (int what : new int[] {-1, 4, 5, 256, EDGES[0], EDGES[1]}) {
            DUE.refusesArgument("touch(0, " + what + ")", () -> touch(x, 0, what, 1));
            DUE.refusesArgument("touch(7, " + what + ")", () -> touch(x, 7, what, 1));
            DUE.refusesArgument("touch(-1, " + what + ")", () -> touch(x, -1, what, 1));
        }
        for (int what = 0; what < 4; what++) {
            int number = what;
            for (int k : new int[] {-1, -2, 1, 2, 30, EDGES[0], EDGES[1]}) {
                DUE.refusesIndex("touch(" + k + ", " + what + ")", () -> touch(x, k, number, 1));
            }
        }
        isEntry(x, 0, 0, 1, 0, 0);
        DUE.is("sound", x.isSound(), true);
    }

    private static void soundOrNot() {
        DUE.says("Whether all kept entries have the links that they must have.");
        DUE.is("no entries", new DiodeLink().isSound(), true);
        DiodeLink x = withEntries(33);
        DUE.is("30 kept entries", x.isSound(), true);
        for (int k = 3; k < 33; k++) {
            x.touch(k, k % 4, 1 << k % 8);
            DUE.is("entry " + k + " is touched", x.isSound(), false);
            x.touch(k, k % 4, 1 << k % 8);
            DUE.is("and as it was", x.isSound(), true);
        }
        x.touch(10, 2, 1);
        x.touch(20, 2, 1);
        x.touch(10, 2, 1);
        DUE.is("one of two is as it was", x.isSound(), false);
    }

    private static void linksStandWhenTouched() {
        DUE.says("a LINK: the hash of the link before");
        DiodeLink x = withEntries(3);
        long last = x.journal(2, 4);
        x.touch(2, 1, 255);
        x.touch(1, 0, 1);
        DUE.is("the link of a touched one stands", x.journal(2, 4), last);
        addEntry(x, 3);
        DUE.is("the next link hangs on the link alone", x.journal(3, 4), link(last, 1, versionOf(3), 0, 0));
        DUE.is("not sound", x.isSound(), false);
        x.touch(1, 0, 1);
        x.touch(2, 1, 255);
        DUE.is("sound again", x.isSound(), true);
    }
}
