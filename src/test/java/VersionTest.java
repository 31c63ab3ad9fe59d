/** Promises 9 and 13: what becomes of manifests, files and versions at the receiver, as have tells. */
public final class VersionTest {
    private static final Due DUE = new Due("VersionTest");
    private static final byte[] ONE = Wire.bytes("one");
    private static final byte[] TWO = Wire.bytes("two");
    private static final byte[] LONG = Wire.filled(70, 'q');

    public static void main(String[] args) {
        partlyAndWhole();
        filesBeforeManifest();
        badManifestsAreForgotten();
        goodManifestsAtTheEdges();
        wrongFilesAreForgotten();
        itemsThatTheManifestDoesNotHave();
        filesOfOtherVersions();
        copiesGoOn();
        theSameVersionIsNoOther();
        forgottenOnesHoldNothing();
        sizesCountBesideHashes();
        newVersionsBeginEmpty();
        haveRefuses();
        DUE.end();
    }

    private static int have(Wire w, int version) {
        return w.link.have(0, version);
    }

    private static void partlyAndWhole() {
        Wire w = Wire.withSlot();
        DUE.is("nothing heard", have(w, 3), 0);
        byte[] manifest = Wire.manifest(3, "a", ONE, "b", LONG);
        w.hear(Wire.packetOf(1, 0, 3, 0, manifest, 0, 0));
        DUE.is("a row of the manifest", have(w, 3), 1);
        w.hearItem(0, 3, 0, manifest);
        w.hearItem(0, 3, 1, ONE);
        DUE.is("a file is missing", have(w, 3), 1);
        w.hearItem(0, 3, 2, LONG);
        DUE.is("whole", have(w, 3), 2);
        DUE.is("of the other folder nothing", w.link.have(1, 3), 0);
        w.hearItem(1, 3, 0, Wire.manifest(3));
        DUE.is("no files at all", w.link.have(1, 3), 2);
        DUE.is("no entry of the journal", w.link.journal(-1, 0), 0);
    }

    private static void filesBeforeManifest() {
        Wire w = Wire.withSlot();
        w.hearItem(0, 3, 2, LONG);
        w.hearItem(0, 3, 1, ONE);
        DUE.is("files alone", have(w, 3), 1);
        DUE.is("are solved", w.link.rank(0, 3, 2, 1), 8);
        w.hearItem(0, 3, 0, Wire.manifest(3, "a", ONE, "b", LONG));
        DUE.is("with the manifest", have(w, 3), 2);
    }

    private static void isForgotten(String what, int version, byte[] manifest) {
        Wire w = Wire.withSlot();
        DUE.is(what + ": hear", w.hearItem(0, version, 0, manifest), 0);
        DUE.is(what + ": rank", w.link.rank(0, version, 0, 0), 0);
        DUE.is(what + ": have", have(w, version), 1);
        DUE.is(what + ": rows", w.link.count(1), 0);
        w.hearItem(0, version, 0, Wire.manifest(version));
        DUE.is(what + ": a good one comes", have(w, version), 2);
    }

    private static byte[] with(byte[] bytes, int i, int value) {
        byte[] changed = bytes.clone();
        changed[i] = (byte) value;
        return changed;
    }

    private static void badManifestsAreForgotten() {
        byte[] good = Wire.manifest(3, "a", ONE, "bc", TWO);
        isForgotten("another version", 3, with(good, 1, 4));
        isForgotten("another version by 256", 3, with(good, 0, 1));
        isForgotten("one file too few", 3, with(good, 2, 1));
        isForgotten("one file too many", 3, with(good, 2, 3));
        isForgotten("a name of length 0", 3, with(good, 3, 0));
        isForgotten("a name of length 255", 3, with(good, 3, 255));
        isForgotten("a name of sign 32", 3, Wire.manifest(3, "a b", ONE));
        isForgotten("a name of sign 127", 3, Wire.manifest(3, "a\u007f", ONE));
        isForgotten("a name of 7", 3, Wire.manifest(3, "abcdefg", ONE));
        isForgotten("no name", 3, Wire.manifest(3, "", ONE));
        isForgotten("a size of 97", 3, with(good, 5, 97));
        isForgotten("names not in order", 3, Wire.manifest(3, "b", ONE, "a", ONE));
        isForgotten("a longer one first", 3, Wire.manifest(3, "ab", ONE, "a", ONE));
        isForgotten("two names the same", 3, Wire.manifest(3, "a", ONE, "a", TWO));
        isForgotten("the third is not in order", 3, Wire.manifest(3, "a", ONE, "c", ONE, "b", ONE));
        isForgotten("seven files", 3,
            Wire.manifest(3, "a", ONE, "b", ONE, "c", ONE, "d", ONE, "e", ONE, "f", ONE, "g", ONE));
        isForgotten("one byte more", 3, java.util.Arrays.copyOf(good, good.length + 1));
        isForgotten("one byte less", 3, java.util.Arrays.copyOf(good, good.length - 1));
        isForgotten("two bytes", 3, new byte[] {0, 3});
        isForgotten("nothing", 3, new byte[0]);
    }

    private static void goodManifestsAtTheEdges() {
        Wire w = Wire.withSlot();
        byte[] most = Wire.filled(96, 33);
        w.hearVersion(0, 65535, "!", most, "!!", ONE, "~~~~~~", new byte[0]);
        DUE.is("names and sizes at their edges", have(w, 65535), 2);
        Wire v = Wire.withSlot();
        v.hearItem(1, 256, 0, Wire.manifest(256, "a", ONE, "b", ONE, "c", ONE, "d", ONE, "e", ONE, "f", ONE));
        DUE.is("the manifest of six files", v.link.rank(1, 256, 0, 0), 8);
        for (int item = 1; item <= 6; item++) {
            DUE.is("not whole yet", v.link.have(1, 256), 1);
            v.hearItem(1, 256, item, ONE);
        }
        DUE.is("six files", v.link.have(1, 256), 2);
    }

    private static void wrongFilesAreForgotten() {
        Wire w = Wire.withSlot();
        w.hearItem(0, 3, 1, TWO);
        w.hearItem(0, 3, 2, Wire.bytes("of another size"));
        w.hear(Wire.packetOf(1, 0, 3, 3, LONG, 1, 0));
        DUE.is("a block of a long one", w.link.rank(0, 3, 3, 1), 8);
        w.hearItem(0, 3, 0, Wire.manifest(3, "a", ONE, "b", TWO, "c", ONE));
        DUE.is("another hash, before the manifest", w.link.rank(0, 3, 1, 0), 0);
        DUE.is("another size, before the manifest", w.link.rank(0, 3, 2, 0), 0);
        DUE.is("one that is not complete stays", w.link.rank(0, 3, 3, 1), 8);
        DUE.is("a wrong one behind the manifest", w.hearItem(0, 3, 1, TWO), 0);
        DUE.is("is forgotten", w.link.rank(0, 3, 1, 0), 0);
        w.hearItem(0, 3, 1, ONE);
        DUE.is("the right one", w.link.rank(0, 3, 1, 0), 8);
        w.hearItem(0, 3, 2, TWO);
        DUE.is("the long one is in the way", w.hearItem(0, 3, 3, ONE), 4);
        for (int j = 0; j < 8; j++) {
            w.hear(Wire.packetOf(1, 0, 3, 3, LONG, 0, j));
        }
        DUE.is("it is complete and goes", w.link.rank(0, 3, 3, 1), 0);
        DUE.is("with all blocks", w.link.rank(0, 3, 3, 0), 0);
        DUE.is("partly", have(w, 3), 1);
        w.hearItem(0, 3, 3, ONE);
        DUE.is("whole", have(w, 3), 2);
    }

    private static void itemsThatTheManifestDoesNotHave() {
        Wire w = Wire.withSlot();
        w.hearItem(0, 3, 2, ONE);
        w.hear(Wire.packetOf(1, 0, 3, 3, LONG, 0, 0));
        w.hear(Wire.packetOf(1, 0, 3, 4, LONG, 1, 0));
        w.hear(Wire.packetOf(1, 0, 3, 1, LONG, 0, 0));
        w.hearItem(0, 3, 0, Wire.manifest(3, "a", ONE));
        DUE.is("a complete one goes", w.link.rank(0, 3, 2, 0), 0);
        DUE.is("rows go", w.link.rank(0, 3, 3, 0), 0);
        DUE.is("solved blocks go", w.link.rank(0, 3, 4, 1), 0);
        DUE.is("the row of one that it has stays", w.link.count(1), 1);
        DUE.is("a later one", w.hear(Wire.packetOf(1, 0, 3, 2, LONG, 0, 0)), 0);
        DUE.is("has its row", w.link.rank(0, 3, 2, 0), 1);
        DUE.is("a later one that is complete", w.hearItem(0, 3, 6, ONE), 0);
        DUE.is("is forgotten", w.link.rank(0, 3, 6, 0), 0);
        DUE.is("and comes again", w.hearItem(0, 3, 6, TWO), 0);
        w.link.restartReceiver();
        w.hearItem(0, 3, 1, ONE);
        DUE.is("whole", have(w, 3), 2);
        DUE.is("later still", w.hearItem(0, 3, 6, ONE), 0);
        DUE.is("whole still", have(w, 3), 2);
    }

    private static void filesOfOtherVersions() {
        Wire w = Wire.withSlot();
        w.hearVersion(0, 3, "a", ONE, "long", LONG);
        w.hear(Wire.packetOf(1, 0, 4, 2, LONG, 0, 0));
        w.hear(Wire.packetOf(1, 0, 4, 1, Wire.filled(50, 1), 0, 0));
        w.hearItem(0, 4, 0, Wire.manifest(4, "b", LONG, "c", TWO, "d", ONE));
        DUE.is("block 0 counts as solved", w.link.rank(0, 4, 1, 0), 8);
        DUE.is("block 1 counts as solved", w.link.rank(0, 4, 1, 1), 8);
        DUE.is("a short one has no block 1", w.link.rank(0, 4, 3, 1), 0);
        DUE.is("what was there of it goes", w.link.count(1), 1);
        DUE.is("the other one is missing", have(w, 4), 1);
        DUE.is("its packets are dropped", w.hear(Wire.packetOf(1, 0, 4, 1, LONG, 0, 0)), 4);
        DUE.is("of another size, too", w.hear(Wire.packetOf(1, 0, 4, 1, ONE, 0, 0)), 4);
        w.link.restartReceiver();
        w.hearItem(0, 4, 2, TWO);
        DUE.is("whole", have(w, 4), 2);
        w.hearItem(1, 4, 0, Wire.manifest(4, "a", ONE));
        DUE.is("not from the other folder", w.link.have(1, 4), 1);
        w.link.release(0);
        DUE.is("the bytes are those", w.link.file(0, 0, 69, true), 'q');
        DUE.is("and their number", w.link.file(0, 0, -1, true), 70);
        DUE.is("the short one", w.link.file(0, 2, 0, true), 'o');
    }

    /** A file that comes makes versions whole that wait for it, and these make others whole. */
    private static void copiesGoOn() {
        Wire w = Wire.withSlot();
        w.hearItem(0, 5, 0, Wire.manifest(5, "a", ONE, "b", ONE));
        w.hearItem(0, 7, 0, Wire.manifest(7, "c", ONE));
        w.hearItem(0, 6, 0, Wire.manifest(6, "d", ONE, "e", TWO));
        w.hearItem(0, 5, 2, ONE);
        DUE.is("one that waits", have(w, 7), 2);
        DUE.is("its twin by way of another version", have(w, 5), 2);
        DUE.is("one that waits for more", have(w, 6), 1);
        DUE.is("what it has", w.link.rank(0, 6, 1, 0), 8);
        w.hearItem(0, 6, 2, TWO);
        DUE.is("it comes", have(w, 6), 2);
    }

    private static void theSameVersionIsNoOther() {
        Wire w = Wire.withSlot();
        w.hearItem(0, 5, 0, Wire.manifest(5, "a", ONE, "b", ONE));
        w.hearItem(0, 5, 1, ONE);
        DUE.is("the twin in the version itself", w.link.rank(0, 5, 2, 0), 0);
        DUE.is("partly", have(w, 5), 1);
    }

    private static void forgottenOnesHoldNothing() {
        Wire w = Wire.withSlot();
        w.hearVersion(0, 1, "a", ONE);
        w.link.release(0);
        for (int version = 2; version <= 4; version++) {
            w.hearItem(0, version, 0, Wire.manifest(version));
        }
        DUE.is("four are known", have(w, 1), 4);
        w.hear(Wire.packetOf(1, 0, 5, 0, Wire.manifest(5, "a", ONE), 0, 0));
        DUE.is("released, not known any more", have(w, 1), 4);
        DUE.is("rank", w.link.rank(0, 1, 1, 0), 0);
        w.hearItem(0, 5, 0, Wire.manifest(5, "a", ONE));
        DUE.is("it holds no file for others", have(w, 5), 1);
        DUE.is("its own files stay", w.link.file(0, 0, 0, true), 'o');
        w.hearItem(0, 6, 0, Wire.manifest(6));
        DUE.is("one that was whole is forgotten", have(w, 2), 0);
    }

    /** Manifests with the hash of a file, but another size. */
    private static void sizesCountBesideHashes() {
        Wire w = Wire.withSlot();
        w.hearVersion(0, 3, "a", ONE);
        byte[] longer = with(Wire.manifest(4, "a", ONE), 5, 5);
        w.hearItem(0, 4, 0, longer);
        DUE.is("the manifest is good", w.link.rank(0, 4, 0, 0), 8);
        DUE.is("the file of the other version has another size", w.link.rank(0, 4, 1, 0), 0);
        DUE.is("the file itself", w.hearItem(0, 4, 1, ONE), 0);
        DUE.is("is forgotten", w.link.rank(0, 4, 1, 0), 0);
        DUE.is("partly", have(w, 4), 1);
    }

    /** What the least one had is not there for the one that comes instead of it. */
    private static void newVersionsBeginEmpty() {
        Wire w = Wire.withSlot();
        w.hearVersion(0, 1, "a", ONE, "b", TWO);
        w.hearItem(0, 2, 0, Wire.manifest(2, "c", ONE));
        w.hearItem(0, 3, 0, Wire.manifest(3));
        w.hearItem(0, 4, 0, Wire.manifest(4));
        w.hear(Wire.packetOf(1, 0, 5, 0, Wire.manifest(5, "a", TWO), 0, 0));
        DUE.is("the fifth one", have(w, 5), 1);
        DUE.is("what it has of item 1", w.link.rank(0, 5, 1, 0), 0);
        w.hearItem(0, 5, 2, LONG);
        DUE.is("a file before the manifest", w.link.rank(0, 5, 2, 0), 8);
        DUE.is("what it has of item 1 then", w.link.rank(0, 5, 1, 0), 0);
        w.hearItem(0, 5, 1, TWO);
        DUE.is("its own file", w.link.rank(0, 5, 1, 0), 8);
        DUE.is("without a manifest", have(w, 5), 1);
        w.hearItem(0, 5, 0, Wire.manifest(5, "a", TWO));
        DUE.is("with it", have(w, 5), 2);
        DUE.is("what it does not have", w.link.rank(0, 5, 2, 0), 0);
        w.hearItem(0, 5, 2, TWO);
        DUE.is("and what comes of it later", w.link.rank(0, 5, 2, 0), 0);
    }

    private static void haveRefuses() {
        DiodeLink x = new DiodeLink();
        int[][] wrong = {{-1, 1}, {2, 1}, {0, 0}, {0, -1}, {1, 65536}, {1, Integer.MAX_VALUE}};
        for (int[] a : wrong) {
            DUE.refusesArgument("have of " + a[0] + ", " + a[1], () -> x.have(a[0], a[1]));
        }
        DUE.is("have of the last version", x.have(1, 65535), 0);
    }
}
