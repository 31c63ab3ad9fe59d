import java.util.Arrays;

/** Promises 1 to 5: a new object, feed, write, remove, commit; and what the sender's folders have. */
public final class FilesTest {
    private static final Due DUE = new Due("FilesTest");
    private static final int[] NO_FOLDERS = {-1, 2, 3, 255, 256, Integer.MIN_VALUE, Integer.MAX_VALUE};

    public static void main(String[] args) {
        newObjectHasNothing();
        newObjectHasEmptyFolders();
        newObjectHasNoRules();
        feedTakesOneToEight();
        feedTakesLowestBytes();
        feedRefusesOtherNumbers();
        feedRefusesTooMuch();
        feedThatIsRefusedChangesNothing();
        writeTakesWhatIsAtHand();
        writeOfTheSameName();
        writeEmptiesBoth();
        writeRefusesFolders();
        writeRefusesNames();
        writeTakesNamesAtTheEdges();
        writeRefusesSevenFiles();
        writeThatIsRefusedChangesNoFile();
        filesAreBetweenEmptyAndFull();
        removeTakesOut();
        removeFindsTheNameAlone();
        removeEmptiesTheName();
        removeRefuses();
        commitRefusesFolders();
        commitNumbers();
        commitTakesTheFolderAsItIs();
        commitEnds();
        DUE.end();
    }

    // ---- promise 1

    private static void newObjectHasNothing() {
        DUE.says("nothing heard");
        DiodeLink x = new DiodeLink();
        for (int what = 0; what < 3; what++) {
            DUE.is("count(" + what + ") of a new object", x.count(what), 0);
        }
        for (int folder = 0; folder < 2; folder++) {
            int f = folder;
            DUE.is("have(" + f + ", 1) of a new object", x.have(f, 1), 0);
            DUE.is("have(" + f + ", 65535) of a new object", x.have(f, 65535), 0);
            DUE.is("rank of a new object", x.rank(f, 1, 0, 0), 0);
            DUE.is("released of a new object", x.released(f), 0);
            DUE.is("release of a new object", x.release(f), 0);
            DUE.refusesIndex("file of a new object", () -> x.file(f, 0, -1, false));
        }
        DUE.is("journal(-1, 0) of a new object", x.journal(-1, 0), 0);
        DUE.refusesIndex("journal(0, 0) of a new object", () -> x.journal(0, 0));
        DUE.is("isSound() of a new object", x.isSound(), true);
        for (int slot = 0; slot < 32; slot++) {
            int s = slot;
            DUE.refusesArgument("hear(" + s + ") of a new object", () -> x.hear(s));
        }
    }

    private static void newObjectHasEmptyFolders() {
        DUE.says("Empty folders");
        for (int folder = 0; folder < 2; folder++) {
            Wire w = new Wire();
            DUE.is("remove of no name", w.link.remove(folder), false);
            DUE.is("the first commit", w.link.commit(folder), 1);
            isSent(w, folder, 1, new byte[] {0, 1, 0});
            DUE.is("the first file", w.write(folder, "a", new byte[0]), 1);
        }
    }

    private static void newObjectHasNoRules() {
        DUE.says("no rules (nothing is broken)");
        Wire w = new Wire();
        for (int k = 0; k < 6; k++) {
            w.write(1, "!" + (char) ('a' + k) + "~", Wire.filled(96, new int[] {0, 255, 33, 126, 1, 128}[k]));
        }
        w.link.commit(1);
        for (int s = 0; s < 6 * 24 + 22; s++) {
            w.link.hear(w.link.send());
        }
        DUE.is("six files of 96", w.link.have(1, 1), 2);
        DUE.is("no entry", w.link.journal(-1, 0), 0);
        for (int value = 0; value < 256; value += 5) {
            Wire v = Wire.withSlot();
            v.hearVersion(0, 1, "a", Wire.filled(1, value));
            DUE.is("a first byte of " + value, v.link.have(0, 1), 2);
        }
        for (int sign = 33; sign <= 126; sign++) {
            Wire v = Wire.withSlot();
            v.hearItem(0, 1, 1, Wire.bytes("x"));
            v.hearItem(0, 1, 0, Wire.manifest(1, "" + (char) sign, Wire.bytes("x")));
            DUE.is("a name of sign " + sign, v.link.have(0, 1), 2);
        }
    }

    // ---- promise 2

    private static void feedTakesOneToEight() {
        DUE.says("behind the name (false) or the data (true) at hand: how many");
        for (int n = 1; n <= 8; n++) {
            DiodeLink x = new DiodeLink();
            DUE.is("data of " + n, x.feed(true, 0x4142434445464748L, n), n);
            DUE.is("data of " + n + " and 1", x.feed(true, 0x41, 1), n + 1);
            if (n <= 6) {
                DUE.is("a name of " + n, x.feed(false, 0x4142434445464748L, n), n);
            }
            DUE.is("the data are beside the name", x.feed(true, 0x41, 1), n + 2);
        }
    }

    /** The bytes that were fed, seen in the plain packets of the item. */
    private static void feedTakesLowestBytes() {
        DUE.says("n bytes (1 .. 8; the lowest n, the highest of these first)");
        DiodeLink x = new DiodeLink();
        x.feed(false, 0x1122334455667778L, 2);
        x.feed(true, 0x1122334455667788L, 3);
        x.feed(true, -1L, 1);
        x.feed(true, 0x0102030405060708L, 8);
        x.write(0);
        x.commit(0);
        for (int k = 0; k < 6; k++) {
            x.send();
        }
        DUE.is("version, one file, the name's length, name, size", x.packet(0, 8) >>> 8, 0x0001010277780CL);
        DUE.is("header of item 1", x.packet(4, 0), 0x010000010100000CL);
        DUE.is("bytes of item 1", x.packet(4, 8), 0x667788FF01020304L);
        DUE.is("bytes of item 1, filled up with zeros", x.packet(5, 8), 0x0506070800000000L);
        for (int n = 1; n <= 8; n++) {
            DiodeLink y = new DiodeLink();
            y.feed(false, 0x61, 1);
            y.feed(true, 0xF1E2D3C4B5A69788L, n);
            y.write(0);
            y.commit(0);
            while (y.packet(y.send(), 0) != (0x0100000101000000L | n)) {
                DUE.is("the file comes soon", y.count(2) < 32, true);
            }
            DUE.is("the lowest " + n, y.packet(y.count(2) - 1, 8), 0xF1E2D3C4B5A69788L << 8 * (8 - n));
        }
    }

    private static void feedRefusesOtherNumbers() {
        DUE.says("IllegalArgumentException: n is not so");
        DiodeLink x = new DiodeLink();
        for (int n : new int[] {0, 9, -1, 96, 256, 257, Integer.MIN_VALUE, Integer.MAX_VALUE}) {
            DUE.refusesArgument("data of n " + n, () -> x.feed(true, 0x61, n));
            DUE.refusesArgument("a name of n " + n, () -> x.feed(false, 0x61, n));
        }
        DUE.is("nothing came by it", x.feed(true, 0x61, 1), 1);
        DUE.is("nor behind the name", x.feed(false, 0x61, 1), 1);
        x.feed(false, 0x6161616161L, 5);
        DUE.refusesArgument("n 9 when the name is full", () -> x.feed(false, 0, 9));
        DUE.refusesArgument("n 0 when the name is full", () -> x.feed(false, 0, 0));
    }

    private static void feedRefusesTooMuch() {
        DUE.says("IllegalStateException: there would be more than 6, or 96");
        for (int n = 1; n <= 8; n++) {
            int many = n;
            DiodeLink x = new DiodeLink();
            if (n > 6) {
                DUE.refusesState("a name of " + n, () -> x.feed(false, 0, many));
            }
            for (int k = 1; k <= 6; k++) {
                int before = k - 1;
                if (before + n > 6) {
                    DUE.refusesState("a name of " + before + " and " + n, () -> x.feed(false, 0, many));
                }
                DUE.is("a name of " + k, x.feed(false, 0x61, 1), k);
            }
            DUE.refusesState("a name of 6 and " + n, () -> x.feed(false, 0, many));
            for (int k = 1; k <= 11; k++) {
                DUE.is("data", x.feed(true, 0x4142434445464748L, 8), 8 * k);
            }
            DUE.is("data of 96 less " + n, x.feed(true, 0, 8 - n + (n == 8 ? 1 : 0)), n == 8 ? 89 : 96 - n);
            if (n == 8) {
                DUE.refusesState("data of 89 and 8", () -> x.feed(true, 0, 8));
                DUE.is("data of 89 and 7", x.feed(true, 0, 7), 96);
            } else {
                DUE.refusesState("data of 96 less " + n + ", and one more", () -> x.feed(true, 0, many + 1));
                DUE.is("data of just 96", x.feed(true, 0, n), 96);
            }
            DUE.refusesState("data of 96 and " + n, () -> x.feed(true, 0, many));
        }
    }

    private static void feedThatIsRefusedChangesNothing() {
        DUE.says("IllegalStateException: there would be more than 6, or 96");
        Wire w = new Wire();
        w.feed(false, Wire.bytes("abcde"));
        DUE.refusesState("a name of 5 and 2", () -> w.link.feed(false, 0x7879, 2));
        w.feed(true, Wire.filled(95, 'd'));
        DUE.refusesState("data of 95 and 8", () -> w.link.feed(true, 0x7879, 8));
        DUE.is("one more goes behind the name", w.link.feed(false, 0x66, 1), 6);
        DUE.is("one more goes behind the data", w.link.feed(true, 0x64, 1), 96);
        w.link.write(0);
        w.link.commit(0);
        isSent(w, 0, 1, Wire.manifest(1, "abcdef", Wire.filled(96, 'd')), Wire.filled(96, 'd'));
    }

    // ---- promise 3

    private static void writeTakesWhatIsAtHand() {
        DUE.says("The name at hand is a file with the data at hand");
        Wire w = new Wire();
        DUE.is("the first", w.write(1, "b", Wire.bytes("data of b")), 1);
        DUE.is("the second, without data", w.write(1, "a", new byte[0]), 2);
        DUE.is("the other folder has its own", w.write(0, "a", Wire.bytes("other")), 1);
        w.link.commit(1);
        isSent(w, 1, 1, Wire.manifest(1, "a", new byte[0], "b", Wire.bytes("data of b")), new byte[0],
            Wire.bytes("data of b"));
    }

    private static void writeOfTheSameName() {
        DUE.says("(both are empty then, also when it is refused): how many files");
        Wire w = new Wire();
        w.write(0, "b", Wire.bytes("bbbb"));
        w.write(0, "ab", Wire.bytes("abab"));
        w.write(0, "a", Wire.bytes("aaaa"));
        DUE.is("the same name again", w.write(0, "ab", Wire.bytes("new")), 3);
        w.link.commit(0);
        byte[] wanted = Wire.manifest(1, "a", Wire.bytes("aaaa"), "ab", Wire.bytes("new"), "b", Wire.bytes("bbbb"));
        isSent(w, 0, 1, wanted, Wire.bytes("aaaa"), Wire.bytes("new"), Wire.bytes("bbbb"));
        w.write(0, "a", Wire.bytes(""));
        w.write(0, "B~", Wire.bytes("capital"));
        w.link.commit(0);
        wanted = Wire.manifest(2, "B~", Wire.bytes("capital"), "a", Wire.bytes(""), "ab", Wire.bytes("new"),
            "b", Wire.bytes("bbbb"));
        isSent(w, 0, 2, wanted, Wire.bytes("capital"), Wire.bytes(""), Wire.bytes("new"), Wire.bytes("bbbb"));
    }

    /** The new packets from the start of a round are those of the items. */
    private static void isSent(Wire w, int folder, int version, byte[]... items) {
        int turn = 0;
        for (int item = 0; item < items.length; item++) {
            for (int block = 0; block < Wire.blocks(items[item].length); block++) {
                for (int j = 0; j < 2 * Wire.pieces(items[item].length, block); j++) {
                    int slot = w.link.send();
                    if (version > 1 && turn++ % 4 == 3) {
                        slot = w.link.send();
                        turn++;
                    }
                    byte[] want = Wire.packetOf(1, folder, version, item, items[item], block, j);
                    DUE.is("packet " + item + " " + block + " " + j + " of version " + version,
                        Arrays.equals(w.read(slot), want), true);
                }
            }
        }
    }

    private static void areEmpty(String behind, DiodeLink x) {
        DUE.is("the name is empty behind " + behind, x.feed(false, 0x62L, 1), 1);
        DUE.is("the data are empty behind " + behind, x.feed(true, 0x62L, 1), 1);
    }

    private static void writeEmptiesBoth() {
        DUE.says("(both are empty then, also when it is refused)");
        Wire w = new Wire();
        w.write(0, "abcdef", Wire.filled(96, 'a'));
        areEmpty("a write", w.link);
        DUE.is("write", w.link.write(0), 2);
        w.feed(false, Wire.bytes("abc"));
        w.feed(true, Wire.bytes("abc"));
        DUE.refusesArgument("no such folder", () -> w.link.write(2));
        areEmpty("no such folder", w.link);
        w.feed(false, Wire.bytes(" "));
        DUE.refusesArgument("no such name", () -> w.link.write(0));
        areEmpty("no such name", w.link);
        w.link.write(0);
        w.feed(true, Wire.bytes("data without a name"));
        DUE.refusesArgument("no name", () -> w.link.write(0));
        areEmpty("no name", w.link);
        DUE.is("the same file still", w.link.write(0), 2);
        for (int k = 3; k <= 6; k++) {
            w.write(0, "f" + k, Wire.bytes("f"));
        }
        w.feed(false, Wire.bytes("f7"));
        w.feed(true, Wire.bytes("abc"));
        DUE.refusesState("a seventh file", () -> w.link.write(0));
        areEmpty("a seventh file", w.link);
    }

    private static void writeRefusesFolders() {
        DUE.says("IllegalArgumentException: no such folder, or the name is not so");
        Wire w = new Wire();
        for (int folder : NO_FOLDERS) {
            w.feed(false, Wire.bytes("a"));
            DUE.refusesArgument("write(" + folder + ")", () -> w.link.write(folder));
        }
        for (int folder = 0; folder < 2; folder++) {
            DUE.is("nothing came of it", w.write(folder, "z", Wire.bytes("z")), 1);
        }
    }

    private static void writeRefusesNames() {
        DUE.says("IllegalArgumentException: no such folder, or the name is not so");
        Wire w = new Wire();
        DUE.refusesArgument("write without a name", () -> w.link.write(0));
        DUE.refusesArgument("write without a name, to folder 1", () -> w.link.write(1));
        for (int sign : new int[] {0, 1, 10, 31, 32, 127, 128, 160, 161, 254, 255}) {
            for (int place = 0; place < 6; place++) {
                byte[] name = Wire.filled(place < 3 ? 3 : 6, 'n');
                name[place] = (byte) sign;
                w.feed(false, name);
                DUE.refusesArgument("sign " + sign + " at " + place, () -> w.link.write(0));
            }
            w.feed(false, new byte[] {(byte) sign});
            DUE.refusesArgument("sign " + sign + " alone", () -> w.link.write(1));
        }
        DUE.is("nothing came of it", w.write(0, "z", Wire.bytes("z")), 1);
    }

    private static void writeTakesNamesAtTheEdges() {
        DUE.says("a NAME of 1 to 6 bytes (33 .. 126), 0 to 96 bytes");
        Wire w = new Wire();
        DUE.is("one byte of 33", w.write(0, "!", new byte[0]), 1);
        DUE.is("one byte of 126", w.write(0, "~", Wire.filled(96, 255)), 2);
        DUE.is("six bytes of 33", w.write(0, "!!!!!!", Wire.filled(1, 0)), 3);
        DUE.is("six bytes of 126", w.write(0, "~~~~~~", Wire.filled(95, 128)), 4);
        w.link.commit(0);
        isSent(w, 0, 1,
            Wire.manifest(1, "!", new byte[0], "!!!!!!", Wire.filled(1, 0), "~", Wire.filled(96, 255),
                "~~~~~~", Wire.filled(95, 128)),
            new byte[0], Wire.filled(1, 0), Wire.filled(96, 255), Wire.filled(95, 128));
        for (int sign = 33; sign <= 126; sign++) {
            Wire v = new Wire();
            DUE.is("sign " + sign, v.write(1, "" + (char) sign, new byte[0]), 1);
        }
    }

    private static void writeRefusesSevenFiles() {
        DUE.says("IllegalStateException: there are 6 others");
        Wire w = new Wire();
        for (int k = 1; k <= 6; k++) {
            DUE.is("file " + k, w.write(0, "f" + k, Wire.bytes("x")), k);
        }
        for (String name : new String[] {"f0", "f35", "f7", "f", "f66"}) {
            w.feed(false, Wire.bytes(name));
            DUE.refusesState("a seventh file: " + name, () -> w.link.write(0));
        }
        for (int k = 1; k <= 6; k++) {
            DUE.is("one of the six", w.write(0, "f" + k, Wire.bytes("y")), 6);
        }
        w.feed(false, new byte[] {1});
        DUE.refusesArgument("a wrong name, six files", () -> w.link.write(0));
        w.feed(false, Wire.bytes("f7"));
        DUE.refusesArgument("a wrong folder, six files", () -> w.link.write(2));
        DUE.is("the other folder has its own six", w.write(1, "f7", Wire.bytes("")), 1);
        DUE.is("one goes", w.remove(0, "f3"), true);
        DUE.is("another one comes", w.write(0, "f7", Wire.bytes("")), 6);
    }

    private static void writeThatIsRefusedChangesNoFile() {
        DUE.says("(both are empty then, also when it is refused)");
        Wire w = new Wire();
        for (int k = 1; k <= 6; k++) {
            w.write(1, "" + k, new byte[0]);
        }
        w.feed(false, Wire.bytes("0"));
        w.feed(true, Wire.bytes("abc"));
        DUE.refusesState("a seventh file", () -> w.link.write(1));
        w.feed(false, Wire.bytes("3"));
        w.feed(true, Wire.bytes("abc"));
        DUE.refusesArgument("a wrong folder", () -> w.link.write(-1));
        w.link.commit(1);
        byte[] none = new byte[0];
        isSent(w, 1, 1, Wire.manifest(1, "1", none, "2", none, "3", none, "4", none, "5", none, "6", none),
            none, none, none, none, none, none);
    }

    private static void filesAreBetweenEmptyAndFull() {
        DUE.says("THE SENDER has FOLDERS 0, 1 with up to 6 FILES each");
        Wire w = new Wire();
        for (int folder = 0; folder < 2; folder++) {
            for (int k = 1; k <= 6; k++) {
                DUE.is("file " + k + " of folder " + folder, w.write(folder, "" + (9 - k), Wire.bytes("x")), k);
            }
        }
        for (int folder = 0; folder < 2; folder++) {
            for (int k = 1; k <= 6; k++) {
                DUE.is("file " + k + " goes", w.remove(folder, "" + (9 - k)), true);
            }
            DUE.is("the first again", w.write(folder, "z", Wire.bytes("x")), 1);
        }
    }

    // ---- promise 4

    private static void removeTakesOut() {
        DUE.says("The file of the name at hand goes");
        Wire w = new Wire();
        w.write(0, "a", Wire.bytes("1"));
        w.write(0, "b", Wire.bytes("22"));
        w.write(0, "c", Wire.bytes("333"));
        w.feed(true, Wire.bytes("at hand"));
        DUE.is("remove", w.remove(0, "b"), true);
        DUE.is("remove leaves the data at hand", w.link.feed(true, 0x21L, 1), 8);
        w.link.feed(false, 0x64L, 1);
        DUE.is("how many are left", w.link.write(0), 3);
        w.link.commit(0);
        isSent(w, 0, 1, Wire.manifest(1, "a", Wire.bytes("1"), "c", Wire.bytes("333"), "d", Wire.bytes("at hand!")),
            Wire.bytes("1"), Wire.bytes("333"), Wire.bytes("at hand!"));
    }

    private static void removeFindsTheNameAlone() {
        DUE.says("whether there was one");
        Wire w = new Wire();
        DUE.is("from an empty folder", w.remove(0, "b"), false);
        w.write(0, "b", Wire.bytes("22"));
        w.write(0, "bcd", Wire.bytes("333"));
        DUE.is("a name that begins another one", w.remove(0, "bc"), false);
        DUE.is("a name that another one begins", w.remove(0, "bcde"), false);
        DUE.is("from the other folder", w.remove(1, "b"), false);
        DUE.is("no name at all", w.link.remove(0), false);
        w.feed(false, new byte[] {7});
        DUE.is("what is no name", w.link.remove(0), false);
        DUE.is("none went", w.write(0, "z", Wire.bytes("z")), 3);
        DUE.is("there was one", w.remove(0, "b"), true);
        DUE.is("it went", w.remove(0, "b"), false);
    }

    private static void removeEmptiesTheName() {
        DUE.says("(the name is empty then, also when it is refused)");
        Wire w = new Wire();
        w.write(0, "b", Wire.bytes("22"));
        for (String name : new String[] {"b", "nofile"}) {
            w.remove(0, name);
            DUE.is("behind remove of " + name, w.link.feed(false, 0x61L, 1), 1);
            w.link.remove(0);
        }
        for (int folder : NO_FOLDERS) {
            DUE.refusesArgument("remove(" + folder + ")", () -> w.link.remove(folder) ? 1 : 0);
            DUE.is("behind what was refused", w.link.feed(false, 0x61L, 1), 1);
        }
    }

    private static void removeRefuses() {
        DUE.says("whether there was one. IllegalArgumentException: no such folder.");
        Wire w = new Wire();
        w.write(0, "b", Wire.bytes("22"));
        w.write(1, "b", Wire.bytes("22"));
        for (int folder : NO_FOLDERS) {
            w.feed(false, Wire.bytes("b"));
            DUE.refusesArgument("remove(" + folder + ")", () -> w.link.remove(folder) ? 1 : 0);
        }
        DUE.is("the file of folder 0 stands", w.remove(0, "b"), true);
        DUE.is("the file of folder 1 stands", w.remove(1, "b"), true);
    }

    // ---- promise 5

    private static void commitRefusesFolders() {
        DUE.says("A new version: its number. IllegalArgumentException: no such folder;");
        DiodeLink x = new DiodeLink();
        for (int folder : NO_FOLDERS) {
            DUE.refusesArgument("commit(" + folder + ")", () -> x.commit(folder));
        }
        DUE.refusesState("no version came of it", () -> x.send());
    }

    private static void commitNumbers() {
        DUE.says("A new version: its number.");
        DiodeLink x = new DiodeLink();
        for (int k = 1; k <= 250; k++) {
            DUE.is("commit(0)", x.commit(0), k);
            DUE.is("commit(1)", x.commit(1), k);
        }
        x.send();
        DUE.is("number 250 in the packet", x.packet(0, 0), 0x010000FA00000003L);
        DUE.is("another object begins anew", new DiodeLink().commit(0), 1);
    }

    private static void commitTakesTheFolderAsItIs() {
        DUE.says("commit() makes a VERSION of a folder as it is, numbered 1, 2, .. (up to 1,000)");
        Wire w = new Wire();
        w.write(0, "a", Wire.bytes("first"));
        w.write(1, "z", Wire.bytes("other folder"));
        w.link.commit(0);
        w.write(0, "a", Wire.bytes("second"));
        w.write(0, "b", Wire.bytes("new"));
        isSent(w, 0, 1, Wire.manifest(1, "a", Wire.bytes("first")), Wire.bytes("first"));
        w.link.commit(0);
        w.remove(0, "a");
        w.remove(0, "b");
        isSent(w, 0, 2, Wire.manifest(2, "a", Wire.bytes("second"), "b", Wire.bytes("new")), Wire.bytes("second"),
            Wire.bytes("new"));
        w.link.commit(0);
        isSent(w, 0, 3, Wire.manifest(3));
    }

    /** More calls than the document promises answers for, but there is no other way to the 1,000th. */
    private static void commitEnds() {
        DUE.says("IllegalStateException: there were 1,000");
        DiodeLink x = new DiodeLink();
        for (int k = 1; k <= 1000; k++) {
            DUE.is("commit " + k, x.commit(1), k);
        }
        x.send();
        long first = x.packet(0, 0);
        DUE.is("number 1,000 in the packet", first, 0x010103E800000003L);
        for (int k = 0; k < 3; k++) {
            DUE.refusesState("commit number 1,001", () -> x.commit(1));
        }
        DUE.refusesArgument("no such folder behind it", () -> x.commit(2));
        x.send();
        DUE.is("the round was not begun anew", x.packet(1, 0), 0x010103E800000103L);
        DUE.is("the other folder", x.commit(0), 1);
    }
}
