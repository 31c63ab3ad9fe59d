import java.util.ArrayList;
import java.util.Arrays;
import java.util.List;
import java.util.TreeSet;

/** Promises 6 to 8 and 10: send, packet, alter, restartSender; and what the sender's packets are. */
public final class SendTest {
    private static final Due DUE = new Due("SendTest");

    public static void main(String[] args) {
        hashOfNothing();
        hashOfBytes();
        highestByteFirst();
        manifestIsInOrder();
        threeVersionsAreKept();
        emptyItemsHaveOneBlock();
        blocksEndAtSixtyFour();
        lastPiecesAreFilledUp();
        zerosBehindShorterFiles();
        plainPiecesComeFirst();
        sumsFollow();
        sumsOfAllItems();
        masksOfNothingAreAll();
        packetsAreOfTwentyFourBytes();
        longestManifest();
        everyFourthIsOld();
        noneOfASort();
        ordersOfBothSorts();
        roundsGoAround();
        roundsBeginAnew();
        slotsGoAround();
        lastOfAllCalls();
        slotsKeepWhatTheyHave();
        sendWithoutVersion();
        packetRefuses();
        alterRefuses();
        alterTurnsBits();
        restartSenderCountsLives();
        restartSenderEnds();
        DUE.end();
    }

    private static void isSent(Wire w, String what, byte[] want) {
        DUE.is(what, Arrays.equals(w.read(w.link.send()), want), true);
    }

    private static List<byte[]> allOf(int life, int folder, int version, byte[]... items) {
        List<byte[]> all = new ArrayList<>();
        for (int item = 0; item < items.length; item++) {
            for (int block = 0; block < Wire.blocks(items[item].length); block++) {
                for (int j = 0; j < 2 * Wire.pieces(items[item].length, block); j++) {
                    all.add(Wire.packetOf(life, folder, version, item, items[item], block, j));
                }
            }
        }
        return all;
    }

    private static byte[] mixed(int size) {
        byte[] bytes = new byte[size];
        for (int i = 0; i < size; i++) {
            bytes[i] = (byte) (37 * i + 200);
        }
        return bytes;
    }

    /** A link whose folder 1 has a version with a file of these bytes. */
    private static Wire withFile(byte[] bytes) {
        Wire w = new Wire();
        w.write(1, "abcdef", bytes);
        w.link.commit(1);
        return w;
    }

    /** Skips the manifest's packets: the next one is the first of the file. */
    private static Wire atFile(byte[] bytes) {
        Wire w = withFile(bytes);
        for (int j = 0; j < 2 * Wire.pieces(19, 0); j++) {
            w.link.send();
        }
        return w;
    }

    // ---- terms: hashes and numbers

    /** The hash that a manifest tells of one file "a", in its second and third piece. */
    private static long hashInManifest(byte[] bytes) {
        Wire w = new Wire();
        w.write(0, "a", bytes);
        w.link.commit(0);
        w.link.send();
        w.link.send();
        return w.link.packet(0, 8) << 48 | w.link.packet(1, 8) >>> 16;
    }

    private static void hashOfNothing() {
        DUE.says("h is -3750763034362895579 at first");
        DUE.is("the hash of nothing", hashInManifest(new byte[0]), 0xcbf29ce484222325L);
    }

    private static void hashOfBytes() {
        DUE.says("for each byte (0 .. 255), h becomes (h exclusive-or the byte) times 1099511628211 (64 bits, what is "
            + "above is lost)");
        DUE.is("the hash of a", hashInManifest(Wire.bytes("a")), 0xaf63dc4c8601ec8cL);
        DUE.is("the hash of foobar", hashInManifest(Wire.bytes("foobar")), 0x85944171f73967e8L);
        DUE.is("the hash of 255", hashInManifest(Wire.filled(1, 255)), 0xaf64724c8602eb6eL);
        DUE.is("the hash of 128, 0", hashInManifest(new byte[] {(byte) 128, 0}), 0x09e58807b65d046dL);
        byte[] most = new byte[96];
        for (int i = 0; i < 96; i++) {
            most[i] = (byte) i;
        }
        DUE.is("the hash of 96 bytes", hashInManifest(most), 0xc1bc4787857e7905L);
    }

    private static void highestByteFirst() {
        DUE.says("Numbers of several bytes have the highest byte first.");
        DiodeLink x = new DiodeLink();
        for (int k = 1; k <= 258; k++) {
            x.commit(0);
        }
        x.send();
        DUE.is("version 258 in the packet", x.packet(0, 0), 0x0100010200000003L);
        DUE.is("version 258 in the manifest", x.packet(0, 8), 0x0102000000000000L);
    }

    private static void manifestIsInOrder() {
        DUE.says("in the order of names (byte by byte, one that begins another one first)");
        String[] names = {"!", "!!", "A", "Z", "a", "aa", "aab", "ab", "b", "~", "~!"};
        for (int from = 0; from + 6 <= names.length; from++) {
            Wire w = new Wire();
            Object[] parts = new Object[12];
            byte[][] items = new byte[7][];
            for (int k = 0; k < 6; k++) {
                String name = names[from + (k * 5 + 3) % 6];
                w.write(0, name, Wire.bytes(name));
                parts[2 * k] = names[from + k];
                items[k + 1] = Wire.bytes(names[from + k]);
                parts[2 * k + 1] = items[k + 1];
            }
            items[0] = Wire.manifest(1, parts);
            w.link.commit(0);
            for (byte[] want : allOf(1, 0, 1, items)) {
                isSent(w, "six names from " + from, want);
            }
        }
    }

    private static void threeVersionsAreKept() {
        DUE.says("the latest 3 are kept");
        DiodeLink x = new DiodeLink();
        for (int number = 1; number <= 7; number++) {
            x.commit(0);
            TreeSet<Long> seen = new TreeSet<>();
            for (int s = 0; s < 20; s++) {
                seen.add(x.packet(x.send(), 0) >>> 32 & 0xFFFF);
            }
            DUE.is("how many are sent", seen.size(), Math.min(3, number));
            DUE.is("the oldest one of them", seen.first(), Math.max(1, number - 2));
            DUE.is("the latest one of them", seen.last(), number);
        }
    }

    // ---- terms: blocks, pieces, masks

    private static void emptyItemsHaveOneBlock() {
        DUE.says("(one block, empty, when there are none)");
        Wire w = atFile(new byte[0]);
        DUE.is("packet 0 of an empty one", w.link.packet(w.link.send(), 0), 0x0101000101000000L);
        DUE.says("an empty one has one piece");
        DUE.is("packet 1 of an empty one", w.link.packet(w.link.send(), 0), 0x0101000101000100L);
        DUE.is("its bytes", w.link.packet(w.link.count(2) - 1, 8), 0);
        DUE.is("then the round begins anew", w.link.packet(w.link.send(), 0), 0x0101000100000013L);
    }

    private static void blocksEndAtSixtyFour() {
        DUE.says("An item's bytes are cut into BLOCKS of 64");
        int[][] sizesAndPackets = {{1, 2}, {8, 2}, {9, 4}, {56, 14}, {57, 16}, {63, 16}, {64, 16}, {65, 18}, {72, 18},
            {73, 20}, {95, 24}, {96, 24}};
        for (int[] a : sizesAndPackets) {
            Wire w = withFile(mixed(a[0]));
            List<byte[]> all = allOf(1, 1, 1, Wire.manifest(1, "abcdef", mixed(a[0])), mixed(a[0]));
            DUE.is("packets of size " + a[0], all.size() - 6, a[1]);
            for (byte[] want : all) {
                isSent(w, "size " + a[0], want);
            }
            isSent(w, "size " + a[0] + ", around", all.get(0));
        }
        Wire w = atFile(mixed(65));
        for (int j = 0; j < 16; j++) {
            w.link.send();
        }
        int slot = w.link.send();
        DUE.is("byte 64 is in block 1", w.link.packet(slot, 0), 0x0101000101010041L);
        DUE.is("alone", w.link.packet(slot, 8), (long) (mixed(65)[64] & 255) << 56);
    }

    private static void lastPiecesAreFilledUp() {
        DUE.says("(the last one filled up with zeros;");
        for (int more = 1; more <= 8; more++) {
            Wire w = atFile(Wire.filled(8 + more, 255));
            DUE.is("a full piece", w.link.packet(w.link.send(), 8), -1L);
            DUE.is(more + " bytes in the last one", w.link.packet(w.link.send(), 8), -1L << 64 - 8 * more);
        }
    }

    /** The fourth version may have the place of the first one, whose files were longer. */
    private static void zerosBehindShorterFiles() {
        DUE.says("(the last one filled up with zeros;");
        Wire w = new Wire();
        w.write(0, "a", Wire.filled(24, 255));
        w.link.commit(0);
        w.write(0, "a", Wire.filled(3, 255));
        for (int number = 2; number <= 7; number++) {
            w.link.commit(0);
            byte[] manifest = Wire.manifest(number, "a", Wire.filled(3, 255));
            for (byte[] want : allOf(1, 0, number, manifest, Wire.filled(3, 255))) {
                int slot = w.link.send();
                if (w.link.packet(slot, 0) >>> 32 != (1 << 24 | number)) {
                    slot = w.link.send();
                }
                DUE.is("a packet of version " + number, Arrays.equals(w.read(slot), want), true);
            }
        }
    }

    private static void plainPiecesComeFirst() {
        DUE.says("bit j alone for j below n");
        byte[] bytes = mixed(64);
        Wire w = atFile(bytes);
        for (int j = 0; j < 8; j++) {
            DUE.is("piece " + j, w.link.packet(w.link.send(), 8), java.nio.ByteBuffer.wrap(bytes).getLong(8 * j));
        }
    }

    /** Masks that were reckoned apart from all code here. */
    private static void sumsFollow() {
        DUE.says("otherwise the lowest n bits of x / 256 (of 32 bits without a sign, rounded down)");
        // Version 1, item 1, block 0, j = 8 .. 15.
        int[] masks = {0x99, 0x0D, 0xBD, 0xA9, 0xD1, 0x37, 0xD8, 0xB6};
        byte[] bytes = mixed(64);
        Wire w = atFile(bytes);
        for (int j = 0; j < 8; j++) {
            w.link.send();
        }
        for (int j = 8; j < 16; j++) {
            DUE.is("sum " + j, w.link.packet(w.link.send(), 8), Wire.sum(bytes, 0, masks[j - 8]));
        }
    }

    /** All packets of six full files: with these two versions a factor that is off by one is seen. */
    private static void sumsOfAllItems() {
        DUE.says("with x = 40503 * (j + 1) * (j + 7) + 9973 * (block + 1) + 977 * item + 31 * version (wrapping)");
        for (int version : new int[] {8, 15}) {
            Wire w = new Wire();
            Object[] parts = new Object[12];
            byte[][] items = new byte[7][];
            for (int k = 0; k < 6; k++) {
                items[k + 1] = mixed(96);
                parts[2 * k] = "name-" + k;
                parts[2 * k + 1] = items[k + 1];
                w.write(0, "name-" + k, items[k + 1]);
            }
            items[0] = Wire.manifest(version, parts);
            for (int number = 1; number <= version; number++) {
                w.link.commit(0);
            }
            int c = 0;
            for (byte[] want : allOf(1, 0, version, items)) {
                int slot = w.link.send();
                if (c++ % 4 == 3) {
                    slot = w.link.send();
                    c++;
                }
                DUE.is("send " + c + " of version " + version, w.link.packet(slot, 16),
                    java.nio.ByteBuffer.wrap(want).getLong(16));
            }
        }
    }

    private static void masksOfNothingAreAll() {
        DUE.says("all n bits when these are 0");
        // Version 1, item 1, block 0 of 3 pieces, j 4: (40503 * 5 * 11 + 9973 + 977 + 31) / 256 is 8744, of which
        // the lowest 3 bits are 0.
        byte[] bytes = mixed(24);
        Wire w = atFile(bytes);
        for (int j = 0; j < 4; j++) {
            w.link.send();
        }
        DUE.is("packet 4 of 3 pieces", w.link.packet(w.link.send(), 8), Wire.sum(bytes, 0, 7));
        Wire r = Wire.withSlot();
        r.hear(Wire.packet(1, 1, 1, 1, 0, 4, 24, Wire.sum(bytes, 0, 7)));
        r.hear(Wire.packet(1, 1, 1, 1, 0, 0, 24, Wire.sum(bytes, 0, 1)));
        DUE.is("the last piece beside the sum", r.hear(Wire.packet(1, 1, 1, 1, 0, 2, 24, Wire.sum(bytes, 0, 4))), 0);
        DUE.is("solves it", r.link.rank(1, 1, 1, 0), 8);
        r.hearItem(1, 1, 0, Wire.manifest(1, "a", bytes));
        DUE.is("with its bytes", r.link.have(1, 1), 2);
    }

    private static void packetsAreOfTwentyFourBytes() {
        DUE.says("A PACKET is 24 bytes: life, folder, version (2), item, block, j, the item's size, the 8 bytes, "
            + "the HASH of these 16.");
        Wire w = atFile(mixed(72));
        for (int j = 0; j < 17; j++) {
            w.link.send();
        }
        int slot = w.link.send();
        DUE.is("the head", w.link.packet(slot, 0), 0x0101000101010148L);
        byte[] packet = w.read(slot);
        DUE.is("the 8 bytes", w.link.packet(slot, 8), Wire.sum(mixed(72), 1, 1));
        DUE.is("the hash", w.link.packet(slot, 16), Wire.hash(packet, 16));
    }

    private static void longestManifest() {
        DUE.says("Its MANIFEST: the version (2 bytes), how many files (1), and for each, in the order of names");
        Wire w = new Wire();
        Object[] parts = new Object[12];
        byte[][] items = new byte[7][];
        for (int k = 0; k < 6; k++) {
            parts[2 * k] = "name-" + k;
            parts[2 * k + 1] = Wire.filled(16 * (k + 1), 7);
            items[k + 1] = Wire.filled(16 * (k + 1), 7);
            w.write(0, "name-" + k, items[k + 1]);
        }
        items[0] = Wire.manifest(1, parts);
        w.link.commit(0);
        DUE.is("the longest manifest", items[0].length, 99);
        DUE.says("ITEM 0 of a version is its manifest, items 1, 2, .. its files in that order.");
        for (byte[] want : allOf(1, 0, 1, items)) {
            isSent(w, "six files", want);
        }
    }

    // ---- terms: sending

    private static void everyFourthIsOld() {
        DUE.says("is OLD when c % 4 is 3, otherwise NEW");
        DiodeLink x = new DiodeLink();
        x.commit(0);
        x.commit(0);
        for (int c = 0; c < 40; c++) {
            DUE.is("the version of send " + c, x.packet(x.send(), 0) >>> 32 & 0xFFFF, c % 4 == 3 ? 1 : 2);
        }
    }

    private static void noneOfASort() {
        DUE.says("when there are none of a sort, it is of the other one");
        for (int folder = 0; folder < 2; folder++) {
            Wire w = new Wire();
            w.link.commit(folder);
            List<byte[]> all = allOf(1, folder, 1, Wire.manifest(1));
            for (int c = 0; c < 9; c++) {
                isSent(w, "no old ones, send " + c, all.get(c % all.size()));
            }
        }
        Wire w = new Wire();
        w.link.commit(0);
        w.link.commit(1);
        List<byte[]> all = allOf(1, 0, 1, Wire.manifest(1));
        all.addAll(allOf(1, 1, 1, Wire.manifest(1)));
        for (int c = 0; c < 9; c++) {
            isSent(w, "two new ones, no old ones, send " + c, all.get(c % all.size()));
        }
    }

    /** Three versions of folder 0 with a file, two of folder 1 without. */
    private static Wire withFiveVersions(byte[] a) {
        Wire w = new Wire();
        w.write(0, "a", a);
        for (int number = 1; number <= 4; number++) {
            w.link.commit(0);
        }
        w.link.commit(1);
        w.link.commit(1);
        return w;
    }

    private static List<byte[]> freshOfFive(int life, byte[] a) {
        List<byte[]> fresh = allOf(life, 0, 4, Wire.manifest(4, "a", a), a);
        fresh.addAll(allOf(life, 1, 2, Wire.manifest(2)));
        return fresh;
    }

    private static List<byte[]> oldOfFive(int life, byte[] a) {
        List<byte[]> old = allOf(life, 0, 2, Wire.manifest(2, "a", a), a);
        old.addAll(allOf(life, 0, 3, Wire.manifest(3, "a", a), a));
        old.addAll(allOf(life, 1, 1, Wire.manifest(1)));
        return old;
    }

    private static void ordersOfBothSorts() {
        DUE.says("NEW packets are those of the latest version of folder 0, then of folder 1; OLD those of all other "
            + "kept versions, folder 0 first, older ones first; each in order of items, blocks, j.");
        byte[] a = mixed(20);
        Wire w = withFiveVersions(a);
        List<byte[]> fresh = freshOfFive(1, a);
        List<byte[]> old = oldOfFive(1, a);
        for (int c = 0; c < 4 * old.size(); c++) {
            isSent(w, "old and new, send " + c,
                c % 4 == 3 ? old.get(c / 4 % old.size()) : fresh.get((c - c / 4) % fresh.size()));
        }
    }

    private static void roundsGoAround() {
        DUE.says("Each sort goes around");
        Wire w = new Wire();
        byte[] a = Wire.bytes("first");
        w.write(0, "a", a);
        w.link.commit(0);
        List<byte[]> first = allOf(1, 0, 1, Wire.manifest(1, "a", a), a);
        for (int c = 0; c < 3 * first.size() + 1; c++) {
            isSent(w, "one version, send " + c, first.get(c % first.size()));
        }
        w.link.commit(1);
        w.link.commit(1);
        List<byte[]> fresh = new ArrayList<>(first);
        fresh.addAll(allOf(1, 1, 2, Wire.manifest(2)));
        List<byte[]> old = allOf(1, 1, 1, Wire.manifest(1));
        for (int c = 0; c < 4 * fresh.size(); c++) {
            isSent(w, "both sorts, send " + c,
                c % 4 == 3 ? old.get(c / 4 % old.size()) : fresh.get((c - c / 4) % fresh.size()));
        }
    }

    private static void roundsBeginAnew() {
        DUE.says("send number c (0, 1, .. since the latest commit or restart of the sender)");
        byte[] a = Wire.bytes("first");
        for (int sent = 0; sent < 9; sent++) {
            Wire w = withFiveVersions(a);
            for (int c = 0; c < sent; c++) {
                w.link.send();
            }
            w.link.restartSender();
            for (int c = 0; c < 9; c++) {
                isSent(w, "behind " + sent + " and a restart, send " + c,
                    c % 4 == 3 ? oldOfFive(2, a).get(c / 4) : freshOfFive(2, a).get(c - c / 4));
            }
            DUE.says("beginning anew with a commit or restart");
            w.link.commit(1);
            List<byte[]> fresh = allOf(2, 0, 4, Wire.manifest(4, "a", a), a);
            for (int c = 0; c < 8; c++) {
                isSent(w, "behind a commit of folder 1, send " + c,
                    c % 4 == 3 ? oldOfFive(2, a).get(c / 4) : fresh.get(c - c / 4));
            }
        }
    }

    private static void slotsGoAround() {
        DUE.says("A packet goes to SLOT s % 32, s counting all packets ever");
        DiodeLink x = new DiodeLink();
        x.commit(0);
        for (int s = 0; s < 100; s++) {
            if (s == 40) {
                x.commit(0);
            }
            if (s == 50) {
                x.restartSender();
            }
            DUE.is("slot of packet " + s, x.send(), s % 32);
            DUE.is("packets sent", x.count(2), s + 1);
        }
    }

    private static void lastOfAllCalls() {
        DUE.says("An object is used for at most 512 calls after it has been made");
        DiodeLink x = new DiodeLink();
        x.commit(0);
        for (int s = 0; s < 255; s++) {
            x.hear(x.send());
        }
        DUE.is("call 512", x.count(2), 255);
    }

    private static void slotsKeepWhatTheyHave() {
        DUE.says("it stays there until the next one comes there");
        DiodeLink x = new DiodeLink();
        x.commit(0);
        for (int s = 0; s < 32; s++) {
            x.send();
        }
        long before = x.packet(1, 0);
        x.commit(0);
        DUE.is("the next slot behind a commit", x.send(), 0);
        DUE.is("what comes there", x.packet(0, 0), 0x0100000200000003L);
        DUE.is("the other one stays", x.packet(1, 0), before);
        x.hear(1);
        x.restartSender();
        x.restartReceiver();
        DUE.is("it stays when it is heard, and with restarts", x.packet(1, 0), before);
        x.send();
        DUE.is("until the next one comes", x.packet(1, 0), 0x0200000200000003L);
    }

    // ---- promises 6 to 8

    private static void sendWithoutVersion() {
        DUE.says("IllegalStateException: no version at all");
        Wire w = new Wire();
        DUE.refusesState("send() of a new object", () -> w.link.send());
        w.write(0, "a", Wire.bytes("a"));
        DUE.refusesState("send() with a file, but no version", () -> w.link.send());
        w.link.restartSender();
        DUE.refusesState("send() behind a restart", () -> w.link.send());
        DUE.is("nothing was sent", w.link.count(2), 0);
        DUE.refusesArgument("slot 0 has nothing", () -> w.link.packet(0, 0));
        w.link.commit(1);
        DUE.is("one version is enough", w.link.send(), 0);
    }

    private static final int[] NO_SLOTS = {-1, 32, 33, 64, 255, Integer.MIN_VALUE, Integer.MAX_VALUE};

    private static Wire withThreeSlots() {
        Wire w = new Wire();
        w.link.commit(0);
        for (int s = 0; s < 3; s++) {
            w.link.send();
        }
        return w;
    }

    private static void packetRefuses() {
        DUE.says("Eight bytes of what a slot has, from place i (0, 8, 16), the first one highest. "
            + "IllegalArgumentException: no such slot or place, or it has nothing.");
        DiodeLink x = withThreeSlots().link;
        for (int slot : NO_SLOTS) {
            DUE.refusesArgument("packet of slot " + slot, () -> x.packet(slot, 0));
        }
        for (int slot = 3; slot < 32; slot++) {
            int s = slot;
            DUE.refusesArgument("packet of slot " + s + ", which has nothing", () -> x.packet(s, 8));
        }
        for (int i = -24; i <= 32; i++) {
            int at = i;
            if (i != 0 && i != 8 && i != 16) {
                DUE.refusesArgument("packet of place " + i, () -> x.packet(0, at));
            }
        }
        DUE.refusesArgument("the least place", () -> x.packet(0, Integer.MIN_VALUE));
        DUE.refusesArgument("the greatest place", () -> x.packet(0, Integer.MAX_VALUE));
        DUE.is("place 0", x.packet(2, 0), 0x0100000100000003L);
        DUE.is("place 8", x.packet(2, 8), 0x0001000000000000L);
        DUE.is("place 16", x.packet(2, 16), Wire.hash(Wire.packet(1, 0, 1, 0, 0, 0, 3, 0x0001000000000000L), 16));
    }

    private static void alterRefuses() {
        DUE.says("IllegalArgumentException: no such slot or byte, or it has nothing");
        Wire w = withThreeSlots();
        DiodeLink x = w.link;
        byte[] before = w.read(0);
        for (int slot : NO_SLOTS) {
            DUE.refusesArgument("alter of slot " + slot, Due.answering(() -> x.alter(slot, 0, 1)));
        }
        for (int slot = 3; slot < 32; slot++) {
            int s = slot;
            DUE.refusesArgument("alter of slot " + s + ", which has nothing",
                Due.answering(() -> x.alter(s, 23, 1)));
            DUE.refusesArgument("it has nothing still", () -> x.hear(s));
        }
        for (int i : new int[] {-1, 24, 25, 256, -8, Integer.MIN_VALUE, Integer.MAX_VALUE}) {
            DUE.refusesArgument("alter of byte " + i, Due.answering(() -> x.alter(0, i, 1)));
        }
        DUE.is("the packet stands", Arrays.equals(w.read(0), before), true);
    }

    private static void alterTurnsBits() {
        DUE.says("Turns bits (the lowest 8) of byte i of a slot.");
        Wire w = withThreeSlots();
        byte[] wanted = w.read(1);
        byte[] other = w.read(2);
        for (int i = 0; i < 24; i++) {
            w.link.alter(1, i, 1 << i % 8);
            wanted[i] ^= (byte) (1 << i % 8);
            DUE.is("a bit of byte " + i, Arrays.equals(w.read(1), wanted), true);
        }
        for (int bits : new int[] {0, 255, 256, 0x1FF, -256, -1, Integer.MIN_VALUE, Integer.MAX_VALUE}) {
            w.link.alter(1, 13, bits);
            wanted[13] ^= (byte) bits;
            DUE.is("bits " + bits, Arrays.equals(w.read(1), wanted), true);
        }
        DUE.is("the other slot stands", Arrays.equals(w.read(2), other), true);
        w.link.alter(0, 7, 9);
        w.link.alter(0, 7, 9);
        DUE.is("turned twice, it is heard", w.link.hear(0), 0);
    }

    // ---- promise 10

    private static void restartSenderCountsLives() {
        DUE.says("LIFE is 1 at first, one more with each restartSender() (up to 255).");
        Wire w = new Wire();
        DiodeLink x = w.link;
        x.commit(0);
        x.send();
        DUE.is("the first life in the packet", x.packet(0, 0) >>> 56, 1);
        w.feed(false, Wire.bytes("x"));
        DUE.is("the second life", x.restartSender(), 2);
        DUE.is("the name at hand stays", x.feed(false, 0x79L, 1), 2);
        DUE.is("the slots have the first life still", x.packet(0, 0) >>> 56, 1);
        x.send();
        DUE.is("the second life in the packet", x.packet(1, 0) >>> 56, 2);
        DUE.is("packets sent ever", x.count(2), 2);
        DUE.is("the third life", x.restartSender(), 3);
        DUE.is("versions stay", x.commit(0), 2);
    }

    private static void restartSenderEnds() {
        DUE.says("IllegalStateException: it was 255");
        Wire w = new Wire();
        DiodeLink x = w.link;
        x.commit(0);
        for (int life = 2; life <= 255; life++) {
            DUE.is("life", x.restartSender(), life);
        }
        isSent(w, "life 255", Wire.packetOf(255, 0, 1, 0, Wire.manifest(1), 0, 0));
        for (int k = 0; k < 3; k++) {
            DUE.refusesState("life 256", () -> x.restartSender());
        }
        isSent(w, "the round was not begun anew", Wire.packetOf(255, 0, 1, 0, Wire.manifest(1), 0, 1));
        DUE.is("life 255 is heard", x.hear(0), 0);
    }
}
