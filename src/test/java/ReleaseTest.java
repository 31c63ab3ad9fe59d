/** Promises 15 to 17: release, released, file; and what have tells of released versions. */
public final class ReleaseTest {
    private static final Due DUE = new Due("ReleaseTest");
    private static final byte[] ONE = Wire.bytes("one");
    private static final byte[] LONG = Wire.filled(96, 200);

    public static void main(String[] args) {
        greatestWhole();
        aboveTheReleased();
        filesOfTheReleased();
        filesStay();
        refuses();
        wholeWay();
        DUE.end();
    }

    private static void greatestWhole() {
        Wire w = Wire.withSlot();
        w.hearItem(0, 2, 0, Wire.manifest(2));
        w.hearItem(0, 4, 0, Wire.manifest(4));
        w.link.rule(0, 0, true);
        w.hearVersion(0, 5, "a", ONE);
        w.hearItem(0, 6, 0, Wire.manifest(6, "b", LONG));
        DUE.is("rejected", w.link.have(0, 5), 3);
        DUE.is("partly", w.link.have(0, 6), 1);
        DUE.is("release", w.link.release(0), 4);
        DUE.is("released", w.link.released(0), 4);
        DUE.is("have", w.link.have(0, 4), 4);
        DUE.is("the lesser one is whole", w.link.have(0, 2), 2);
        DUE.is("and is not released any more", w.link.release(0), 0);
        DUE.is("released still", w.link.released(0), 4);
        DUE.is("the other folder", w.link.released(1), 0);
        DUE.is("release of the other folder", w.link.release(1), 0);
        DUE.is("entries", w.link.journal(-1, 0), 2);
    }

    private static void aboveTheReleased() {
        Wire w = Wire.withSlot();
        w.hearItem(0, 4, 0, Wire.manifest(4));
        DUE.is("release", w.link.release(0), 4);
        w.hearItem(0, 3, 0, Wire.manifest(3));
        DUE.is("one below", w.link.release(0), 0);
        w.hearItem(0, 6, 0, Wire.manifest(6));
        DUE.is("one above", w.link.release(0), 6);
        DUE.is("before the latest one", w.link.have(0, 4), 5);
        DUE.is("the latest one", w.link.have(0, 6), 4);
        DUE.is("never released", w.link.have(0, 3), 2);
        for (int version = 7; version <= 9; version++) {
            w.hearItem(0, version, 0, Wire.manifest(version));
        }
        DUE.is("before the latest one, not known any more", w.link.have(0, 4), 0);
        w.hearItem(0, 10, 0, Wire.manifest(10));
        DUE.is("the latest one, not known any more", w.link.have(0, 6), 4);
        DUE.is("released", w.link.released(0), 6);
        DUE.is("the greatest of several", w.link.release(0), 10);
        DUE.is("the one before is not known", w.link.have(0, 6), 0);
        DUE.is("journal: the version", w.link.journal(2, 1), 10);
        DUE.is("journal: released", w.link.journal(2, 2), 0);
        DUE.is("journal: no item", w.link.journal(2, 3), 0);
    }

    private static void filesOfTheReleased() {
        Wire w = Wire.withSlot();
        DiodeLink x = w.link;
        w.hearVersion(0, 1, "B", ONE, "a", new byte[0], "abcdef", LONG);
        DUE.refusesIndex("before the release", () -> x.file(0, 0, -1, false));
        x.release(0);
        DUE.is("name 0", x.file(0, 0, -1, false), 1);
        DUE.is("name 0, byte 0", x.file(0, 0, 0, false), 'B');
        DUE.is("file 0", x.file(0, 0, -1, true), 3);
        DUE.is("file 0, byte 2", x.file(0, 0, 2, true), 'e');
        DUE.is("file 1 is empty", x.file(0, 1, -1, true), 0);
        DUE.is("name 2", x.file(0, 2, -1, false), 6);
        DUE.is("name 2, byte 5", x.file(0, 2, 5, false), 'f');
        DUE.is("file 2, byte 95", x.file(0, 2, 95, true), 200);
        DUE.refusesIndex("byte 3 of file 0", () -> x.file(0, 0, 3, true));
        DUE.refusesIndex("byte 0 of an empty one", () -> x.file(0, 1, 0, true));
        DUE.refusesIndex("byte 96", () -> x.file(0, 2, 96, true));
        DUE.refusesIndex("byte 6 of a name", () -> x.file(0, 2, 6, false));
        for (int i : new int[] {-2, Integer.MIN_VALUE, Integer.MAX_VALUE}) {
            DUE.refusesIndex("byte " + i, () -> x.file(0, 0, i, true));
            DUE.refusesIndex("byte " + i + " of a name", () -> x.file(0, 0, i, false));
        }
        for (int k : new int[] {-1, 3, Integer.MIN_VALUE, Integer.MAX_VALUE}) {
            DUE.refusesIndex("file " + k, () -> x.file(0, k, -1, true));
        }
        DUE.refusesIndex("the other folder", () -> x.file(1, 0, -1, true));
        for (int folder : new int[] {-1, 2}) {
            DUE.refusesArgument("folder " + folder, () -> x.file(folder, 0, -1, true));
            DUE.refusesArgument("folder " + folder + " and no such file", () -> x.file(folder, 9, -2, true));
        }
    }

    private static void filesStay() {
        Wire w = Wire.withSlot();
        w.hearVersion(0, 1, "a", ONE, "b", LONG);
        w.link.release(0);
        for (int version = 2; version <= 6; version++) {
            w.hearItem(0, version, 0, Wire.manifest(version));
        }
        DUE.is("not known any more", w.link.rank(0, 1, 0, 0), 0);
        DUE.is("a name", w.link.file(0, 1, 0, false), 'b');
        DUE.is("a byte", w.link.file(0, 1, 95, true), 200);
        DUE.is("the next release", w.link.release(0), 6);
        DUE.refusesIndex("which has no files", () -> w.link.file(0, 0, -1, false));
    }

    private static void refuses() {
        DiodeLink x = new DiodeLink();
        for (int folder : new int[] {-1, 2, Integer.MIN_VALUE, Integer.MAX_VALUE}) {
            DUE.refusesArgument("release(" + folder + ")", () -> x.release(folder));
            DUE.refusesArgument("released(" + folder + ")", () -> x.released(folder));
        }
    }

    /** From files to files, over the sender's own packets with losses. */
    private static void wholeWay() {
        Wire w = new Wire();
        byte[] text = Wire.bytes("Files go one way over a data diode: a sender keeps folders with versions and sends.");
        w.write(1, "text", text);
        w.write(1, "empty", new byte[0]);
        w.link.commit(1);
        for (int s = 0; s < 110; s++) {
            int slot = w.link.send();
            if (s % 3 != 0) {
                w.link.hear(slot);
            }
        }
        DUE.is("release", w.link.release(1), 1);
        int right = 0;
        for (int i = 0; i < text.length; i++) {
            right += w.link.file(1, 1, i, true) == text[i] ? 1 : 0;
        }
        DUE.is("bytes as they were", right, text.length);
        DUE.is("the other file", w.link.file(1, 0, -1, true), 0);
    }
}
