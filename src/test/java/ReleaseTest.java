/** Promises 15 to 17: release, released, file; and what have tells of released versions. */
public final class ReleaseTest {
    private static final Due DUE = new Due("ReleaseTest");
    private static final byte[] ONE = Wire.bytes("one");
    private static final byte[] NONE = new byte[0];
    private static final byte[] LONG = Wire.filled(96, 200);
    private static final int[] NO_FOLDERS = {-1, 2, 3, 256, Integer.MIN_VALUE, Integer.MAX_VALUE};

    public static void main(String[] args) {
        nothingToRelease();
        greatestWhole();
        onlyAboveTheReleased();
        rejectedAreNotReleased();
        foldersAreApart();
        latestOneAndThoseBefore();
        releasedButNotKnown();
        fileTellsBytes();
        fileTellsHowMany();
        fileRefusesBytes();
        fileRefusesFiles();
        fileRefusesFolders();
        filesOfTheLatestReleased();
        filesStay();
        releaseRefuses();
        releasedRefuses();
        wholeWay();
        DUE.end();
    }

    // ---- promises 15 and 16

    private static void nothingToRelease() {
        DUE.says("Releases: the version, 0 for none.");
        Wire w = Wire.withSlot();
        DUE.is("nothing heard", w.link.release(0), 0);
        w.hearItem(0, 6, 0, Wire.manifest(6, "b", LONG));
        DUE.is("partly there", w.link.release(0), 0);
        DUE.is("no entry", w.link.journal(-1, 0), 0);
        w.hearItem(0, 6, 1, LONG);
        DUE.is("whole", w.link.release(0), 6);
        DUE.is("once only", w.link.release(0), 0);
        DUE.is("one entry", w.link.journal(-1, 0), 1);
        w.hearItem(1, 65535, 0, Wire.manifest(65535));
        DUE.is("the last version", w.link.release(1), 65535);
        w.hearItem(1, 1, 0, Wire.manifest(1));
        DUE.is("no one is above it", w.link.release(1), 0);
    }

    private static void greatestWhole() {
        DUE.says("release(f) RELEASES the greatest whole version of a folder");
        for (int turn = 0; turn < 3; turn++) {
            Wire w = Wire.withSlot();
            for (int k = 0; k < 3; k++) {
                int version = 2 + (k + turn) % 3 * 2;
                w.hearItem(0, version, 0, Wire.manifest(version));
            }
            w.hearItem(0, 9, 0, Wire.manifest(9, "b", LONG));
            DUE.is("release", w.link.release(0), 6);
            DUE.is("have of it", w.link.have(0, 6), 4);
            DUE.is("the lesser ones are whole", w.link.have(0, 2) + w.link.have(0, 4), 4);
            DUE.is("the greater one is partly there", w.link.have(0, 9), 1);
        }
    }

    private static void onlyAboveTheReleased() {
        DUE.says("and is above the one that was released");
        Wire w = Wire.withSlot();
        w.hearItem(0, 4, 0, Wire.manifest(4));
        DUE.is("release", w.link.release(0), 4);
        w.hearItem(0, 3, 0, Wire.manifest(3));
        DUE.is("one below is whole", w.link.have(0, 3), 2);
        DUE.is("and is not released", w.link.release(0), 0);
        DUE.says("The released version's number (0 none).");
        DUE.is("released still", w.link.released(0), 4);
        DUE.is("none in the other folder", w.link.released(1), 0);
        w.hearItem(0, 5, 0, Wire.manifest(5));
        DUE.is("whole, but not released", w.link.released(0), 4);
        DUE.is("one above", w.link.release(0), 5);
        DUE.is("released then", w.link.released(0), 5);
    }

    private static void rejectedAreNotReleased() {
        DUE.says("that was not rejected");
        Wire w = Wire.withSlot();
        w.hearItem(0, 2, 0, Wire.manifest(2));
        w.link.rule(0, 0, true);
        w.hearVersion(0, 5, "a", ONE);
        w.link.rule(0, 0, false);
        DUE.is("rejected", w.link.have(0, 5), 3);
        DUE.is("the one that was not", w.link.release(0), 2);
        DUE.is("no other one", w.link.release(0), 0);
        DUE.is("rejected still", w.link.have(0, 5), 3);
    }

    private static void foldersAreApart() {
        DUE.says("release(f) RELEASES the greatest whole version of a folder");
        Wire w = Wire.withSlot();
        w.hearItem(0, 7, 0, Wire.manifest(7));
        w.hearItem(1, 3, 0, Wire.manifest(3));
        DUE.is("folder 1", w.link.release(1), 3);
        DUE.is("folder 0 has none yet", w.link.released(0), 0);
        DUE.is("it is whole", w.link.have(0, 7), 2);
        DUE.is("folder 0", w.link.release(0), 7);
        DUE.is("folder 1 still", w.link.released(1), 3);
        DUE.is("version 3 of folder 0", w.link.have(0, 3), 0);
    }

    // ---- promise 13, of released ones

    private static void latestOneAndThoseBefore() {
        DUE.says("5 released before the latest one, while it is known");
        Wire w = Wire.withSlot();
        for (int version = 4; version <= 6; version++) {
            w.hearItem(0, version, 0, Wire.manifest(version));
            w.link.release(0);
        }
        DUE.is("the first", w.link.have(0, 4), 5);
        DUE.is("the second", w.link.have(0, 5), 5);
        DUE.is("the latest", w.link.have(0, 6), 4);
        w.hearItem(0, 3, 0, Wire.manifest(3));
        DUE.is("never released", w.link.have(0, 3), 2);
        w.hearItem(0, 7, 0, Wire.manifest(7));
        w.hearItem(0, 8, 0, Wire.manifest(8));
        DUE.is("the first, not known any more", w.link.have(0, 4), 0);
        DUE.is("the second is known", w.link.have(0, 5), 5);
    }

    private static void releasedButNotKnown() {
        DUE.says("4 released (also when it is not known any more;");
        Wire w = Wire.withSlot();
        w.hearItem(0, 6, 0, Wire.manifest(6));
        w.link.release(0);
        for (int version = 7; version <= 10; version++) {
            w.hearItem(0, version, 0, Wire.manifest(version));
        }
        DUE.is("not known any more", w.link.rank(0, 6, 0, 0), 0);
        DUE.is("have", w.link.have(0, 6), 4);
        DUE.is("released", w.link.released(0), 6);
        DUE.is("it cannot come again", w.hear(Wire.packetOf(1, 0, 6, 0, Wire.manifest(6), 0, 0)), 3);
        DUE.is("the greatest of several", w.link.release(0), 10);
        DUE.is("the one before, not known", w.link.have(0, 6), 0);
        DUE.is("the latest", w.link.have(0, 10), 4);
    }

    // ---- promise 17

    private static Wire withReleased() {
        Wire w = Wire.withSlot();
        w.hearVersion(0, 1, "B", ONE, "a", NONE, "abcdef", LONG);
        w.link.release(0);
        return w;
    }

    private static void fileTellsBytes() {
        DUE.says("Of the released version's file k (by names): byte i of its name (false) or bytes (true)");
        DiodeLink x = withReleased().link;
        DUE.is("name 0, byte 0", x.file(0, 0, 0, false), 'B');
        DUE.is("name 1, byte 0", x.file(0, 1, 0, false), 'a');
        for (int i = 0; i < 6; i++) {
            DUE.is("name 2, byte " + i, x.file(0, 2, i, false), 'a' + i);
        }
        for (int i = 0; i < 3; i++) {
            DUE.is("file 0, byte " + i, x.file(0, 0, i, true), ONE[i]);
        }
        for (int i = 0; i < 96; i++) {
            DUE.is("file 2, byte " + i, x.file(0, 2, i, true), 200);
        }
    }

    private static void fileTellsHowMany() {
        DUE.says("i -1: how many of these");
        DiodeLink x = withReleased().link;
        DUE.is("name 0", x.file(0, 0, -1, false), 1);
        DUE.is("file 0", x.file(0, 0, -1, true), 3);
        DUE.is("name 1", x.file(0, 1, -1, false), 1);
        DUE.is("file 1 is empty", x.file(0, 1, -1, true), 0);
        DUE.is("name 2", x.file(0, 2, -1, false), 6);
        DUE.is("file 2", x.file(0, 2, -1, true), 96);
    }

    private static void fileRefusesBytes() {
        DUE.says("IndexOutOfBoundsException: there is none.");
        DiodeLink x = withReleased().link;
        DUE.refusesIndex("byte 3 of file 0", () -> x.file(0, 0, 3, true));
        DUE.refusesIndex("byte 0 of an empty one", () -> x.file(0, 1, 0, true));
        DUE.refusesIndex("byte 96", () -> x.file(0, 2, 96, true));
        DUE.refusesIndex("byte 1 of a name of 1", () -> x.file(0, 0, 1, false));
        DUE.refusesIndex("byte 6 of a name of 6", () -> x.file(0, 2, 6, false));
        for (int k = 0; k < 3; k++) {
            int file = k;
            for (int i : new int[] {-2, -3, 104, 256, Integer.MIN_VALUE, Integer.MAX_VALUE}) {
                DUE.refusesIndex("byte " + i, () -> x.file(0, file, i, true));
                DUE.refusesIndex("byte " + i + " of a name", () -> x.file(0, file, i, false));
            }
        }
    }

    private static void fileRefusesFiles() {
        DUE.says("IndexOutOfBoundsException: there is none.");
        Wire w = withReleased();
        for (boolean data : new boolean[] {true, false}) {
            for (int k : new int[] {-1, -2, 3, 6, Integer.MIN_VALUE, Integer.MAX_VALUE}) {
                DUE.refusesIndex("file " + k, () -> w.link.file(0, k, -1, data));
                DUE.refusesIndex("byte 0 of file " + k, () -> w.link.file(0, k, 0, data));
            }
            DUE.refusesIndex("the other folder has none released", () -> w.link.file(1, 0, -1, data));
        }
        w.hearItem(1, 1, 0, Wire.manifest(1));
        w.link.release(1);
        DUE.refusesIndex("a released one without files", () -> w.link.file(1, 0, -1, false));
        w.hearVersion(1, 2, "a", ONE);
        DUE.refusesIndex("a whole one that is not released", () -> w.link.file(1, 0, -1, false));
        Wire v = Wire.withSlot();
        v.hearVersion(0, 1, "a", ONE, "b", ONE, "c", ONE, "d", ONE, "e", ONE, "f", ONE);
        v.link.release(0);
        DUE.is("the sixth", v.link.file(0, 5, 0, false), 'f');
        DUE.refusesIndex("the seventh", () -> v.link.file(0, 6, 0, false));
    }

    private static void fileRefusesFolders() {
        DUE.says("IllegalArgumentException: no such folder; IndexOutOfBoundsException: there is none.");
        DiodeLink x = withReleased().link;
        for (int folder : NO_FOLDERS) {
            DUE.refusesArgument("folder " + folder, () -> x.file(folder, 0, -1, true));
            DUE.refusesArgument("folder " + folder + " and no such file", () -> x.file(folder, 9, -2, true));
        }
    }

    private static void filesOfTheLatestReleased() {
        DUE.says("Of the released version's file k (by names)");
        Wire w = withReleased();
        w.hearVersion(0, 2, "x", Wire.bytes("yz"));
        DUE.is("a whole one is not seen", w.link.file(0, 0, 0, false), 'B');
        w.link.release(0);
        DUE.is("the next one's name", w.link.file(0, 0, 0, false), 'x');
        DUE.is("the next one's bytes", w.link.file(0, 0, 1, true), 'z');
        DUE.is("their number", w.link.file(0, 0, -1, true), 2);
        DUE.refusesIndex("the files of the one before", () -> w.link.file(0, 1, -1, true));
    }

    private static void filesStay() {
        DUE.says("(one that is released keeps its files)");
        Wire w = withReleased();
        for (int version = 2; version <= 5; version++) {
            w.hearItem(0, version, 0, Wire.manifest(version));
        }
        DUE.is("not known any more", w.link.rank(0, 1, 0, 0), 0);
        DUE.is("a name", w.link.file(0, 2, 5, false), 'f');
        DUE.is("a byte", w.link.file(0, 2, 95, true), 200);
        DUE.is("how many", w.link.file(0, 0, -1, true), 3);
        w.hearVersion(0, 7, "zz", ONE);
        w.link.restartReceiver();
        DUE.is("a byte still", w.link.file(0, 0, 1, true), 'n');
        DUE.is("the next release", w.link.release(0), 7);
        DUE.is("its name", w.link.file(0, 0, 1, false), 'z');
    }

    private static void releaseRefuses() {
        DUE.says("Releases: the version, 0 for none. IllegalArgumentException: no such folder.");
        Wire w = Wire.withSlot();
        w.hearItem(0, 1, 0, Wire.manifest(1));
        for (int folder : NO_FOLDERS) {
            DUE.refusesArgument("release(" + folder + ")", () -> w.link.release(folder));
        }
        DUE.is("none was released by it", w.link.released(0), 0);
        DUE.is("no entry came of it", w.link.journal(-1, 0), 0);
    }

    private static void releasedRefuses() {
        DUE.says("The released version's number (0 none). IllegalArgumentException: no such folder.");
        DiodeLink x = new DiodeLink();
        for (int folder : NO_FOLDERS) {
            DUE.refusesArgument("released(" + folder + ")", () -> x.released(folder));
        }
    }

    /** From files to files, over the sender's own packets with losses. */
    private static void wholeWay() {
        DUE.says("Files go one way over a data diode");
        Wire w = new Wire();
        byte[] text = Wire.bytes("Files go one way over a data diode: a sender keeps folders with versions and sends.");
        w.write(1, "text", text);
        w.write(1, "empty", new byte[0]);
        w.link.commit(1);
        for (int s = 0; s < 110; s++) {
            int slot = w.link.send();
            if (s % 3 != 0) {
                w.link.hear(slot);
            }
        }
        DUE.is("release", w.link.release(1), 1);
        int right = 0;
        for (int i = 0; i < text.length; i++) {
            right += w.link.file(1, 1, i, true) == text[i] ? 1 : 0;
        }
        DUE.is("bytes as they were", right, text.length);
        DUE.is("the other file", w.link.file(1, 0, -1, true), 0);
    }
}
