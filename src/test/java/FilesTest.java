/** Promises 1 to 5: a new object, feed, write, remove, commit. */
public final class FilesTest {
    private static final Due DUE = new Due("FilesTest");

    public static void main(String[] args) {
        newObject();
        feedCounts();
        feedTakesLowestBytes();
        writeRefuses();
        writeReplaces();
        removeTakesOut();
        commitNumbers();
        DUE.end();
    }

    private static void newObject() {
        DiodeLink x = new DiodeLink();
        DUE.refusesState("send() of a new object", () -> x.send());
        for (int what = 0; what < 3; what++) {
            DUE.is("count(" + what + ") of a new object", x.count(what), 0);
        }
        for (int folder = 0; folder < 2; folder++) {
            int f = folder;
            DUE.is("have of a new object", x.have(f, 1), 0);
            DUE.is("rank of a new object", x.rank(f, 1, 0, 0), 0);
            DUE.is("released of a new object", x.released(f), 0);
            DUE.is("release of a new object", x.release(f), 0);
            DUE.refusesIndex("file of a new object", () -> x.file(f, 0, -1, false));
        }
        DUE.is("journal(-1, 0) of a new object", x.journal(-1, 0), 0);
        DUE.is("isSound() of a new object", x.isSound(), true);
        DUE.is("remove of no name", x.remove(0), false);
        DUE.is("the first commit of an empty folder", x.commit(1), 1);
        x.send();
        DUE.is("life and folder 1, version 1, item 0, size 3", x.packet(0, 0), 0x0101000100000003L);
        DUE.is("an empty manifest", x.packet(0, 8), 0x0001000000000000L);
    }

    private static void feedCounts() {
        DiodeLink x = new DiodeLink();
        for (int n : new int[] {0, 9, -1, Integer.MIN_VALUE, Integer.MAX_VALUE}) {
            DUE.refusesArgument("feed of n " + n, () -> x.feed(true, 0, n));
            DUE.refusesArgument("feed of n " + n, () -> x.feed(false, 0, n));
        }
        DUE.refusesState("a name of 7", () -> x.feed(false, 0, 7));
        DUE.is("a name of 4", x.feed(false, 0x61626364L, 4), 4);
        DUE.refusesState("a name of 4 and 3", () -> x.feed(false, 0x616263L, 3));
        DUE.is("a name of 4 and 2", x.feed(false, 0x6566L, 2), 6);
        DUE.refusesState("a name of 6 and 1", () -> x.feed(false, 0x61L, 1));
        for (int k = 1; k <= 11; k++) {
            DUE.is("data", x.feed(true, 0x4142434445464748L, 8), 8 * k);
        }
        DUE.is("data of 88 and 7", x.feed(true, 0x41424344454647L, 7), 95);
        DUE.refusesState("data of 95 and 2", () -> x.feed(true, 0, 2));
        DUE.is("data of 95 and 1", x.feed(true, 0, 1), 96);
        DUE.refusesState("data of 96 and 1", () -> x.feed(true, 0, 1));
        DUE.refusesArgument("both are wrong", () -> x.feed(true, 0, 9));
        DUE.is("write", x.write(0), 1);
        DUE.is("the name is empty behind a write", x.feed(false, 0x61L, 1), 1);
        DUE.is("the data are empty behind a write", x.feed(true, 0x61L, 1), 1);
    }

    /** The bytes that were fed, seen in the plain packets of the item. */
    private static void feedTakesLowestBytes() {
        DiodeLink x = new DiodeLink();
        x.feed(false, 0x1122334455667778L, 2);
        x.feed(true, 0x1122334455667788L, 3);
        x.feed(true, -1L, 1);
        x.feed(true, 0x0102030405060708L, 8);
        x.write(0);
        x.commit(0);
        for (int k = 0; k < 6; k++) {
            x.send();
        }
        DUE.is("version, one file, the name's length, name, size", x.packet(0, 8) >>> 8, 0x0001010277780CL);
        DUE.is("header of item 1", x.packet(4, 0), 0x010000010100000CL);
        DUE.is("bytes of item 1", x.packet(4, 8), 0x667788FF01020304L);
        DUE.is("bytes of item 1, filled up with zeros", x.packet(5, 8), 0x0506070800000000L);
    }

    private static void writeRefuses() {
        Wire w = new Wire();
        DiodeLink x = w.link;
        DUE.refusesArgument("write without a name", () -> x.write(0));
        for (int folder : new int[] {-1, 2, Integer.MIN_VALUE, Integer.MAX_VALUE}) {
            w.feed(false, Wire.bytes("a"));
            w.feed(true, Wire.bytes("abc"));
            DUE.refusesArgument("write(" + folder + ")", () -> x.write(folder));
            DUE.is("the name is empty behind what was refused", x.feed(false, 0x62L, 1), 1);
            DUE.is("the data are empty behind what was refused", x.feed(true, 0x62L, 1), 1);
            DUE.is("write", x.write(0), 1);
        }
        for (int sign : new int[] {0, 32, 127, 128, 255}) {
            w.feed(false, new byte[] {'a', (byte) sign});
            DUE.refusesArgument("a name with sign " + sign, () -> x.write(0));
        }
        for (int sign : new int[] {33, 126}) {
            w.feed(false, new byte[] {(byte) sign});
            DUE.is("a name with sign " + sign, x.write(1), sign == 33 ? 1 : 2);
        }
        for (int k = 2; k <= 6; k++) {
            DUE.is("file " + k, w.write(0, "f" + k, Wire.bytes("x")), k);
        }
        w.feed(false, Wire.bytes("f7"));
        w.feed(true, Wire.bytes("abc"));
        DUE.refusesState("a seventh file", () -> x.write(0));
        DUE.is("the name is empty behind a seventh", x.feed(false, 0x66L, 1), 1);
        DUE.is("the data are empty behind a seventh", x.feed(true, 0x66L, 1), 1);
        DUE.refusesState("a seventh file again", () -> x.write(0));
        DUE.is("one of the six", w.write(0, "f6", Wire.bytes("y")), 6);
        w.feed(false, new byte[] {1});
        DUE.refusesArgument("a wrong name, six files", () -> x.write(0));
        DUE.is("the other folder has its own", w.write(1, "f7", Wire.bytes("")), 3);
    }

    private static void writeReplaces() {
        Wire w = new Wire();
        w.write(0, "b", Wire.bytes("bbbb"));
        w.write(0, "ab", Wire.bytes("abab"));
        w.write(0, "a", Wire.bytes("aaaa"));
        DUE.is("the same name again", w.write(0, "ab", Wire.bytes("new")), 3);
        w.link.commit(0);
        byte[] wanted = Wire.manifest(1, "a", Wire.bytes("aaaa"), "ab", Wire.bytes("new"), "b", Wire.bytes("bbbb"));
        isSent(w, 0, 1, wanted, Wire.bytes("aaaa"), Wire.bytes("new"), Wire.bytes("bbbb"));
        w.write(0, "a", Wire.bytes(""));
        w.write(0, "B~", Wire.bytes("capital"));
        w.link.commit(0);
        wanted = Wire.manifest(2, "B~", Wire.bytes("capital"), "a", Wire.bytes(""), "ab", Wire.bytes("new"),
            "b", Wire.bytes("bbbb"));
        isSent(w, 0, 2, wanted, Wire.bytes("capital"), Wire.bytes(""), Wire.bytes("new"), Wire.bytes("bbbb"));
    }

    /** The new packets from the start of a round are those of the items. */
    private static void isSent(Wire w, int folder, int version, byte[]... items) {
        int turn = 0;
        for (int item = 0; item < items.length; item++) {
            for (int j = 0; j < 2 * Wire.pieces(items[item].length, 0); j++) {
                int slot = w.link.send();
                if (version > 1 && turn++ % 4 == 3) {
                    slot = w.link.send();
                    turn++;
                }
                byte[] want = Wire.packetOf(1, folder, version, item, items[item], 0, j);
                DUE.is("packet " + item + " " + j + " of version " + version,
                    java.util.Arrays.equals(w.read(slot), want), true);
            }
        }
    }

    private static void removeTakesOut() {
        Wire w = new Wire();
        DiodeLink x = w.link;
        w.write(0, "a", Wire.bytes("1"));
        w.write(0, "b", Wire.bytes("22"));
        w.write(0, "c", Wire.bytes("333"));
        w.feed(true, Wire.bytes("at hand"));
        DUE.is("remove of one that is not there", w.remove(0, "ab"), false);
        DUE.is("remove from the other folder", w.remove(1, "b"), false);
        w.feed(false, Wire.bytes("b"));
        for (int folder : new int[] {-1, 2}) {
            DUE.refusesArgument("remove(" + folder + ")", () -> x.remove(folder) ? 1 : 0);
            DUE.is("the name is empty behind what was refused", x.feed(false, 0x62L, 1), 1);
        }
        DUE.is("remove", x.remove(0), true);
        DUE.is("the name is empty behind remove", x.remove(0), false);
        DUE.is("remove again", w.remove(0, "b"), false);
        w.feed(false, new byte[] {7});
        DUE.is("remove of what is no name", x.remove(0), false);
        DUE.is("remove leaves the data at hand", x.feed(true, 0x21L, 1), 8);
        x.feed(false, 0x64L, 1);
        DUE.is("how many are left", x.write(0), 3);
        x.commit(0);
        isSent(w, 0, 1, Wire.manifest(1, "a", Wire.bytes("1"), "c", Wire.bytes("333"), "d", Wire.bytes("at hand!")),
            Wire.bytes("1"), Wire.bytes("333"), Wire.bytes("at hand!"));
    }

    private static void commitNumbers() {
        DiodeLink x = new DiodeLink();
        for (int folder : new int[] {-1, 2, Integer.MAX_VALUE}) {
            DUE.refusesArgument("commit(" + folder + ")", () -> x.commit(folder));
        }
        for (int k = 1; k <= 250; k++) {
            DUE.is("commit(0)", x.commit(0), k);
            DUE.is("commit(1)", x.commit(1), k);
        }
        x.send();
        DUE.is("a version of two bytes", new DiodeLink().commit(0), 1);
        DUE.is("number 250 in the packet", x.packet(0, 0), 0x010000FA00000003L);
        commitEnds();
    }

    /** More calls than the document promises answers for, but there is no other way to the 1,000th. */
    private static void commitEnds() {
        DiodeLink x = new DiodeLink();
        for (int k = 1; k <= 1000; k++) {
            x.commit(1);
        }
        DUE.refusesState("commit number 1,001", () -> x.commit(1));
        DUE.is("the other folder", x.commit(0), 1);
    }
}
