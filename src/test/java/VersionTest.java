import java.util.Arrays;

/** Promises 9 and 13: what becomes of manifests, files and versions at the receiver, as have tells. */
public final class VersionTest {
    private static final Due DUE = new Due("VersionTest");
    private static final byte[] ONE = Wire.bytes("one");
    private static final byte[] TWO = Wire.bytes("two");
    private static final byte[] NONE = new byte[0];
    private static final byte[] LONG = Wire.filled(70, 'q');

    public static void main(String[] args) {
        haveTellsHowFar();
        haveRefuses();
        itemsAreCompleteWithAllBlocks();
        manifestsOfOtherVersions();
        manifestsOutOfOrder();
        manifestsWithWrongSizes();
        manifestsWithTooManyFiles();
        manifestsOfOtherLengths();
        manifestsWithoutNames();
        manifestsAreForgottenWithTheirBlocks();
        goodManifestsAtTheEdges();
        manifestOfSixFiles();
        filesBeforeManifest();
        filesOfAnotherHash();
        filesOfAnotherSize();
        filesThatAreNotCompleteStay();
        itemsThatTheManifestDoesNotHave();
        laterItemsThatItDoesNotHave();
        filesOfOtherVersions();
        whatWasThereGoes();
        copiesLeaveTheOthers();
        filesOfOtherFolders();
        copiesGoOn();
        theSameVersionIsNoOther();
        sizesCountBesideHashes();
        filesOfRejectedOnes();
        wholeWithoutFiles();
        fourAreKnown();
        forgottenOnesHoldNothing();
        newVersionsBeginEmpty();
        DUE.end();
    }

    private static int have(Wire w, int version) {
        return w.link.have(0, version);
    }

    // ---- promise 13

    private static void haveTellsHowFar() {
        DUE.says("Of a version 0 nothing heard (or forgotten), 1 partly there, 2 whole, 3 rejected, 4 released");
        Wire w = Wire.withSlot();
        DUE.is("nothing heard", have(w, 3), 0);
        byte[] manifest = Wire.manifest(3, "a", ONE, "b", LONG);
        w.hear(Wire.packetOf(1, 0, 3, 0, manifest, 0, 0));
        DUE.is("a row of the manifest", have(w, 3), 1);
        DUE.is("of the next version nothing", have(w, 4), 0);
        w.link.restartReceiver();
        DUE.is("the row is lost, but it was heard", have(w, 3), 1);
        w.hearItem(0, 3, 0, manifest);
        w.hearItem(0, 3, 1, ONE);
        DUE.is("a file is missing", have(w, 3), 1);
        w.hearItem(0, 3, 2, LONG);
        DUE.is("whole", have(w, 3), 2);
        DUE.is("of the other folder nothing", w.link.have(1, 3), 0);
        DUE.is("no entry of the journal", w.link.journal(-1, 0), 0);
        w.link.rule(1, 1, true);
        w.hearItem(0, 4, 0, Wire.manifest(4, "a", ONE, "b", LONG));
        DUE.is("rejected", have(w, 4), 3);
        w.link.release(0);
        DUE.is("released", have(w, 3), 4);
        DUE.is("rejected still", have(w, 4), 3);
    }

    private static void haveRefuses() {
        DUE.says("IllegalArgumentException: no such folder, or version (1 .. 65535).");
        DiodeLink x = new DiodeLink();
        int[][] wrong = {{-1, 1}, {2, 1}, {0, 0}, {0, -1}, {1, 65536}, {1, 65537}, {1, Integer.MAX_VALUE},
            {1, Integer.MIN_VALUE}, {Integer.MIN_VALUE, 1}, {Integer.MAX_VALUE, 1}};
        for (int[] a : wrong) {
            DUE.refusesArgument("have of " + a[0] + ", " + a[1], () -> x.have(a[0], a[1]));
        }
        DUE.is("have of the first version", x.have(0, 1), 0);
        DUE.is("have of the last version", x.have(1, 65535), 0);
    }

    // ---- complete

    private static void itemsAreCompleteWithAllBlocks() {
        DUE.says("An item whose blocks are all solved is COMPLETE.");
        for (int first = 0; first < 2; first++) {
            Wire w = Wire.withSlot();
            w.hearItem(0, 3, 0, Wire.manifest(3, "a", LONG));
            for (int t = 0; t < 2; t++) {
                int block = t == 0 ? first : 1 - first;
                DUE.is("before block " + block, have(w, 3), 1);
                for (int j = 0; j < Wire.pieces(70, block); j++) {
                    w.hear(Wire.packetOf(1, 0, 3, 1, LONG, block, j));
                }
                DUE.is("block " + block + " is solved", w.link.rank(0, 3, 1, block), 8);
            }
            DUE.is("behind both", have(w, 3), 2);
        }
        for (int size : new int[] {0, 1, 63, 64, 65, 72, 73, 96}) {
            Wire w = Wire.withSlot();
            w.hearVersion(1, 3, "a", Wire.filled(size, 'x'));
            DUE.is("a file of " + size, w.link.have(1, 3), 2);
        }
    }

    // ---- manifests

    private static void isForgotten(String what, int version, byte[] manifest) {
        Wire w = Wire.withSlot();
        DUE.is(what + ": hear", w.hearItem(0, version, 0, manifest), 0);
        DUE.is(what + ": rank", w.link.rank(0, version, 0, 0) + w.link.rank(0, version, 0, 1), 0);
        DUE.is(what + ": have", have(w, version), 1);
        DUE.is(what + ": rows", w.link.count(1), 0);
        w.hearItem(0, version, 0, Wire.manifest(version));
        DUE.is(what + ": a good one comes", have(w, version), 2);
    }

    private static byte[] with(byte[] bytes, int i, int value) {
        byte[] changed = bytes.clone();
        changed[i] = (byte) value;
        return changed;
    }

    private static final byte[] GOOD = Wire.manifest(3, "a", ONE, "bc", TWO);

    private static void manifestsOfOtherVersions() {
        DUE.says("A manifest that is complete is GOOD when it can be one (of this version,");
        isForgotten("one more", 3, with(GOOD, 1, 4));
        isForgotten("one less", 3, with(GOOD, 1, 2));
        isForgotten("by 256", 3, with(GOOD, 0, 1));
        isForgotten("version 0", 3, with(GOOD, 1, 0));
        isForgotten("version 3 for 65535", 65535, GOOD);
    }

    private static void manifestsOutOfOrder() {
        DUE.says("names in order and no two the same");
        isForgotten("names not in order", 3, Wire.manifest(3, "b", ONE, "a", ONE));
        isForgotten("a longer one first", 3, Wire.manifest(3, "ab", ONE, "a", ONE));
        isForgotten("small letters first", 3, Wire.manifest(3, "a", ONE, "B", ONE));
        isForgotten("two names the same", 3, Wire.manifest(3, "a", ONE, "a", TWO));
        isForgotten("two long names the same", 3, Wire.manifest(3, "abcdef", ONE, "abcdef", ONE));
        isForgotten("the third is not in order", 3, Wire.manifest(3, "a", ONE, "c", ONE, "b", ONE));
        isForgotten("the last two are the same", 3, Wire.manifest(3, "a", ONE, "b", ONE, "b", ONE));
    }

    private static void manifestsWithWrongSizes() {
        DUE.says("sizes 0 .. 96");
        for (int size : new int[] {97, 98, 104, 128, 255}) {
            isForgotten("a size of " + size, 3, with(GOOD, 5, size));
            isForgotten("a second size of " + size, 3, with(GOOD, 17, size));
        }
        for (int size : new int[] {0, 96}) {
            Wire w = Wire.withSlot();
            w.hearItem(0, 3, 0, with(GOOD, 17, size));
            DUE.is("a size of " + size, w.link.rank(0, 3, 0, 0), 8);
        }
    }

    private static void manifestsWithTooManyFiles() {
        DUE.says("up to 6 files");
        isForgotten("seven files", 3,
            Wire.manifest(3, "a", ONE, "b", ONE, "c", ONE, "d", ONE, "e", ONE, "f", ONE, "g", ONE));
        isForgotten("seven files without names", 3, with(Wire.filled(66, 0), 1, 3));
        isForgotten("255 files", 3, with(Wire.manifest(3), 2, 255));
    }

    private static void manifestsOfOtherLengths() {
        DUE.says("of just that length");
        isForgotten("one byte more", 3, Arrays.copyOf(GOOD, GOOD.length + 1));
        isForgotten("a piece more", 3, Arrays.copyOf(GOOD, GOOD.length + 8));
        isForgotten("one byte less", 3, Arrays.copyOf(GOOD, GOOD.length - 1));
        isForgotten("half of it", 3, Arrays.copyOf(GOOD, 9));
        isForgotten("one file too few", 3, with(GOOD, 2, 1));
        isForgotten("one file too many", 3, with(GOOD, 2, 3));
        isForgotten("no file, but bytes", 3, with(GOOD, 2, 0));
        isForgotten("four bytes", 3, new byte[] {0, 3, 0, 0});
        isForgotten("two bytes", 3, new byte[] {0, 3});
        isForgotten("nothing", 3, NONE);
        isForgotten("104 bytes", 3, Arrays.copyOf(GOOD, 104));
    }

    private static void manifestsWithoutNames() {
        DUE.says("a NAME of 1 to 6 bytes (33 .. 126)");
        isForgotten("no name", 3, Wire.manifest(3, "", ONE));
        isForgotten("a name of length 0", 3, with(GOOD, 3, 0));
        isForgotten("a name of length 255", 3, with(GOOD, 3, 255));
        isForgotten("a name of 7", 3, Wire.manifest(3, "abcdefg", ONE));
        isForgotten("a name of sign 32", 3, Wire.manifest(3, "a b", ONE));
        isForgotten("a name of sign 127", 3, Wire.manifest(3, "a\u007f", ONE));
        isForgotten("a name of sign 255", 3, Wire.manifest(3, "\u00ff", ONE));
        isForgotten("a name of sign 0", 3, Wire.manifest(3, "a", ONE, "b\u0000", ONE));
    }

    private static void manifestsAreForgottenWithTheirBlocks() {
        DUE.says("otherwise it is forgotten with its blocks");
        Wire w = Wire.withSlot();
        byte[] bad = Wire.filled(90, 1);
        w.hearItem(0, 3, 1, ONE);
        w.hear(Wire.packetOf(1, 0, 3, 2, LONG, 0, 0));
        for (int j = 0; j < 4; j++) {
            w.hear(Wire.packetOf(1, 0, 3, 0, bad, 1, j));
        }
        DUE.is("block 1 alone is solved", w.link.rank(0, 3, 0, 1), 8);
        for (int j = 0; j < 8; j++) {
            w.hear(Wire.packetOf(1, 0, 3, 0, bad, 0, j));
        }
        DUE.is("block 0 is forgotten", w.link.rank(0, 3, 0, 0), 0);
        DUE.is("block 1 is forgotten", w.link.rank(0, 3, 0, 1), 0);
        DUE.is("files stay", w.link.rank(0, 3, 1, 0), 8);
        DUE.is("rows of files stay", w.link.rank(0, 3, 2, 0), 1);
        byte[] good = Wire.manifest(3, "a", ONE);
        DUE.is("a packet of another size comes", w.hear(Wire.packetOf(1, 0, 3, 0, good, 0, 0)), 0);
        w.hearItem(0, 3, 0, good);
        DUE.is("a good one", have(w, 3), 2);
    }

    private static void goodManifestsAtTheEdges() {
        DUE.says("A manifest that is complete is GOOD when it can be one");
        Wire w = Wire.withSlot();
        w.hearVersion(0, 65535, "!", Wire.filled(96, 33), "!!", ONE, "~~~~~~", NONE);
        DUE.is("names and sizes at their edges", have(w, 65535), 2);
        w.hearVersion(1, 1, "~", NONE);
        DUE.is("version 1", w.link.have(1, 1), 2);
    }

    private static void manifestOfSixFiles() {
        DUE.says("A version is WHOLE when its manifest is good and all files are held.");
        Wire v = Wire.withSlot();
        v.hearItem(1, 256, 0, Wire.manifest(256, "a", ONE, "b", ONE, "c", ONE, "d", ONE, "e", ONE, "f", ONE));
        DUE.is("the manifest of six files", v.link.rank(1, 256, 0, 0), 8);
        DUE.is("its second block", v.link.rank(1, 256, 0, 1), 8);
        for (int item = 6; item >= 1; item--) {
            DUE.is("not whole yet", v.link.have(1, 256), 1);
            v.hearItem(1, 256, item, ONE);
        }
        DUE.is("six files", v.link.have(1, 256), 2);
    }

    // ---- files

    private static void filesBeforeManifest() {
        DUE.says("A file item is HELD when the manifest is good and the item complete with size and hash as it says");
        Wire w = Wire.withSlot();
        w.hearItem(0, 3, 2, LONG);
        w.hearItem(0, 3, 1, ONE);
        DUE.is("files alone", have(w, 3), 1);
        DUE.is("are solved", w.link.rank(0, 3, 2, 1), 8);
        w.hearItem(0, 3, 0, Wire.manifest(3, "a", ONE, "b", LONG));
        DUE.is("with the manifest", have(w, 3), 2);
    }

    private static void filesOfAnotherHash() {
        DUE.says("when it is complete and these differ, it is forgotten, with its blocks");
        Wire w = Wire.withSlot();
        w.hearItem(0, 3, 1, TWO);
        DUE.is("before the manifest it is there", w.link.rank(0, 3, 1, 0), 8);
        w.hearItem(0, 3, 0, Wire.manifest(3, "a", ONE));
        DUE.is("with the manifest it goes", w.link.rank(0, 3, 1, 0), 0);
        DUE.is("a wrong one behind the manifest", w.hearItem(0, 3, 1, TWO), 0);
        DUE.is("is forgotten, too", w.link.rank(0, 3, 1, 0), 0);
        DUE.is("partly", have(w, 3), 1);
        DUE.is("the right one", w.hearItem(0, 3, 1, ONE), 0);
        DUE.is("is held", w.link.rank(0, 3, 1, 0), 8);
        DUE.is("whole", have(w, 3), 2);
    }

    private static void filesOfAnotherSize() {
        DUE.says("when it is complete and these differ, it is forgotten, with its blocks");
        for (int size : new int[] {0, 2, 4, 65, 96, 97, 104}) {
            Wire w = Wire.withSlot();
            byte[] other = Wire.filled(size, 'o');
            w.hearItem(0, 3, 1, other);
            DUE.is("size " + size + " is there", w.link.rank(0, 3, 1, 0), 8);
            w.hearItem(0, 3, 0, Wire.manifest(3, "a", ONE));
            DUE.is("size " + size + " goes", w.link.rank(0, 3, 1, 0) + w.link.rank(0, 3, 1, 1), 0);
            DUE.is("size " + size + " again", w.hearItem(0, 3, 1, other), 0);
            DUE.is("goes again", w.link.rank(0, 3, 1, 0) + w.link.rank(0, 3, 1, 1), 0);
            DUE.is("no rows are left", w.link.count(1), 0);
            w.hearItem(0, 3, 1, ONE);
            DUE.is("the right one", have(w, 3), 2);
        }
    }

    private static void filesThatAreNotCompleteStay() {
        DUE.says("(Looked at as soon as the item or the manifest is complete;");
        Wire w = Wire.withSlot();
        w.hear(Wire.packetOf(1, 0, 3, 1, LONG, 1, 0));
        w.hear(Wire.packetOf(1, 0, 3, 1, LONG, 0, 0));
        DUE.is("a block of a long one", w.link.rank(0, 3, 1, 1), 8);
        w.hearItem(0, 3, 0, Wire.manifest(3, "c", ONE));
        DUE.is("the block stays with the manifest", w.link.rank(0, 3, 1, 1), 8);
        DUE.is("the row stays", w.link.rank(0, 3, 1, 0), 1);
        DUE.is("they are in the way", w.hearItem(0, 3, 1, ONE), 4);
        for (int j = 1; j < 8; j++) {
            w.hear(Wire.packetOf(1, 0, 3, 1, LONG, 0, j));
        }
        DUE.is("it is complete and goes", w.link.rank(0, 3, 1, 1), 0);
        DUE.is("with all blocks", w.link.rank(0, 3, 1, 0), 0);
        DUE.is("partly", have(w, 3), 1);
        w.hearItem(0, 3, 1, ONE);
        DUE.is("whole", have(w, 3), 2);
    }

    private static void itemsThatTheManifestDoesNotHave() {
        DUE.says("items that the manifest does not have are forgotten with it, whatever there is of them");
        Wire w = Wire.withSlot();
        w.hearItem(0, 3, 2, ONE);
        w.hear(Wire.packetOf(1, 0, 3, 3, LONG, 0, 0));
        w.hear(Wire.packetOf(1, 0, 3, 4, LONG, 1, 0));
        w.hear(Wire.packetOf(1, 0, 3, 1, LONG, 0, 0));
        w.hear(Wire.packetOf(1, 0, 3, 6, LONG, 0, 0));
        w.hear(Wire.packetOf(1, 0, 4, 3, LONG, 0, 0));
        w.hearItem(0, 3, 0, Wire.manifest(3, "a", ONE));
        DUE.is("a complete one goes", w.link.rank(0, 3, 2, 0), 0);
        DUE.is("rows go", w.link.rank(0, 3, 3, 0), 0);
        DUE.is("solved blocks go", w.link.rank(0, 3, 4, 1), 0);
        DUE.is("the last item's rows go", w.link.rank(0, 3, 6, 0), 0);
        DUE.is("the row of one that it has stays", w.link.rank(0, 3, 1, 0), 1);
        DUE.is("the row of another version stays", w.link.rank(0, 4, 3, 0), 1);
        DUE.is("rows", w.link.count(1), 2);
        Wire v = Wire.withSlot();
        v.hearItem(0, 3, 1, ONE);
        v.hearItem(0, 3, 0, Wire.manifest(3));
        DUE.is("of no files none stays", v.link.rank(0, 3, 1, 0), 0);
        DUE.is("whole", have(v, 3), 2);
    }

    private static void laterItemsThatItDoesNotHave() {
        DUE.says("and later ones as they are complete");
        Wire w = Wire.withSlot();
        w.hearItem(0, 3, 0, Wire.manifest(3, "a", ONE));
        DUE.is("a row of a later one", w.hear(Wire.packetOf(1, 0, 3, 2, LONG, 0, 0)), 0);
        DUE.is("stays", w.link.rank(0, 3, 2, 0), 1);
        DUE.is("a block of a later one", w.hear(Wire.packetOf(1, 0, 3, 2, LONG, 1, 0)), 0);
        DUE.is("stays, too", w.link.rank(0, 3, 2, 1), 8);
        DUE.is("a later one that is complete", w.hearItem(0, 3, 6, ONE), 0);
        DUE.is("is forgotten", w.link.rank(0, 3, 6, 0), 0);
        DUE.is("and comes again", w.hearItem(0, 3, 6, TWO), 0);
        DUE.is("an empty one", w.hearItem(0, 3, 3, NONE), 0);
        DUE.is("is forgotten, too", w.link.rank(0, 3, 3, 0), 0);
        for (int j = 1; j < 8; j++) {
            w.hear(Wire.packetOf(1, 0, 3, 2, LONG, 0, j));
        }
        DUE.is("the long one goes as it is complete", w.link.rank(0, 3, 2, 0) + w.link.rank(0, 3, 2, 1), 0);
        w.hearItem(0, 3, 1, ONE);
        DUE.is("whole", have(w, 3), 2);
        DUE.is("later still", w.hearItem(0, 3, 6, ONE), 0);
        DUE.is("it is forgotten still", w.link.rank(0, 3, 6, 0), 0);
        DUE.is("whole still", have(w, 3), 2);
    }

    // ---- files of other versions

    private static void filesOfOtherVersions() {
        DUE.says("And a file is held, too, when another version of the folder that is known holds one of the same size "
            + "and hash");
        Wire w = Wire.withSlot();
        w.hearVersion(0, 3, "a", ONE, "long", LONG, "none", NONE);
        w.hearItem(0, 4, 0, Wire.manifest(4, "b", LONG, "c", TWO, "d", ONE, "e", NONE));
        DUE.says("its blocks count as solved");
        DUE.is("block 0 counts as solved", w.link.rank(0, 4, 1, 0), 8);
        DUE.is("block 1 counts as solved", w.link.rank(0, 4, 1, 1), 8);
        DUE.is("a short one's block 0", w.link.rank(0, 4, 3, 0), 8);
        DUE.is("a short one has no block 1", w.link.rank(0, 4, 3, 1), 0);
        DUE.is("an empty one's block 0", w.link.rank(0, 4, 4, 0), 8);
        DUE.is("the other one is missing", w.link.rank(0, 4, 2, 0), 0);
        DUE.is("partly", have(w, 4), 1);
        DUE.is("its packets are dropped", w.hear(Wire.packetOf(1, 0, 4, 1, LONG, 0, 0)), 4);
        DUE.is("of another size, too", w.hear(Wire.packetOf(1, 0, 4, 1, ONE, 0, 0)), 4);
        DUE.is("of block 1 of a short one, too", w.hear(Wire.packetOf(1, 0, 4, 3, LONG, 1, 0)), 4);
        w.hearItem(0, 4, 2, TWO);
        DUE.is("whole", have(w, 4), 2);
        w.link.release(0);
        DUE.says("its bytes are those");
        DUE.is("the last byte", w.link.file(0, 0, 69, true), 'q');
        DUE.is("their number", w.link.file(0, 0, -1, true), 70);
        DUE.is("the short one", w.link.file(0, 2, 0, true), 'o');
        DUE.is("the empty one", w.link.file(0, 3, -1, true), 0);
    }

    private static void whatWasThereGoes() {
        DUE.says("what was there of it goes");
        Wire w = Wire.withSlot();
        w.hearVersion(0, 3, "a", ONE, "long", LONG);
        w.hear(Wire.packetOf(1, 0, 4, 1, Wire.filled(104, 1), 0, 0));
        w.hear(Wire.packetOf(1, 0, 4, 1, Wire.filled(104, 1), 1, 0));
        w.hear(Wire.packetOf(1, 0, 4, 2, LONG, 1, 0));
        w.hear(Wire.packetOf(1, 0, 4, 2, LONG, 0, 0));
        w.hear(Wire.packetOf(1, 0, 4, 3, LONG, 0, 0));
        DUE.is("rows", w.link.count(1), 4);
        DUE.is("a solved block", w.link.rank(0, 4, 2, 1), 8);
        w.hearItem(0, 4, 0, Wire.manifest(4, "b", ONE, "c", LONG, "d", TWO));
        DUE.is("one row is left", w.link.count(1), 1);
        DUE.is("that of the missing one", w.link.rank(0, 4, 3, 0), 1);
        DUE.is("rows of another size went", w.link.rank(0, 4, 1, 0), 8);
        DUE.is("in both blocks", w.link.rank(0, 4, 1, 1), 0);
        DUE.is("block 0", w.link.rank(0, 4, 2, 0), 8);
        DUE.is("block 1", w.link.rank(0, 4, 2, 1), 8);
    }

    /** Six copies, and copies beside a file that came by itself. */
    private static void copiesLeaveTheOthers() {
        DUE.says("its blocks count as solved");
        Wire w = Wire.withSlot();
        w.hearVersion(0, 3, "a", ONE);
        w.hearItem(0, 4, 0, Wire.manifest(4, "a", ONE, "b", ONE, "c", ONE, "d", ONE, "e", ONE, "f", ONE));
        DUE.is("six copies of one", have(w, 4), 2);
        w.hearItem(0, 5, 1, TWO);
        w.hearItem(0, 5, 3, NONE);
        w.hearItem(0, 5, 0, Wire.manifest(5, "a", TWO, "b", ONE, "c", NONE, "d", LONG));
        DUE.is("a copy between", w.link.rank(0, 5, 2, 0), 8);
        DUE.is("the one before it", w.link.rank(0, 5, 1, 0), 8);
        DUE.is("the one behind it", w.link.rank(0, 5, 3, 0), 8);
        w.hearItem(0, 5, 4, LONG);
        DUE.is("whole", have(w, 5), 2);
    }

    private static void filesOfOtherFolders() {
        DUE.says("another version of the folder that is known");
        Wire w = Wire.withSlot();
        w.hearVersion(0, 3, "a", ONE);
        w.hearItem(1, 4, 0, Wire.manifest(4, "a", ONE));
        DUE.is("not from the other folder", w.link.have(1, 4), 1);
        DUE.is("nothing is solved", w.link.rank(1, 4, 1, 0), 0);
        w.hearItem(0, 2, 1, TWO);
        w.hearItem(0, 4, 0, Wire.manifest(4, "a", TWO));
        DUE.is("not from one without a manifest", have(w, 4), 1);
        w.hearItem(0, 2, 0, Wire.manifest(2, "x", TWO));
        DUE.is("as soon as that one holds it", have(w, 4), 2);
    }

    /** A file that comes makes versions whole that wait for it, and these make others whole. */
    private static void copiesGoOn() {
        DUE.says("And a file is held, too, when another version of the folder that is known holds one of the same size "
            + "and hash");
        Wire w = Wire.withSlot();
        w.hearItem(0, 5, 0, Wire.manifest(5, "a", ONE, "b", ONE));
        w.hearItem(0, 7, 0, Wire.manifest(7, "c", ONE));
        w.hearItem(0, 6, 0, Wire.manifest(6, "d", ONE, "e", TWO));
        w.hearItem(0, 5, 2, ONE);
        DUE.is("one that waits", have(w, 7), 2);
        DUE.is("its twin by way of another version", have(w, 5), 2);
        DUE.is("one that waits for more", have(w, 6), 1);
        DUE.is("what it has", w.link.rank(0, 6, 1, 0), 8);
        w.hearItem(0, 6, 2, TWO);
        DUE.is("it comes", have(w, 6), 2);
    }

    private static void theSameVersionIsNoOther() {
        DUE.says("another version of the folder that is known");
        Wire w = Wire.withSlot();
        w.hearItem(0, 5, 0, Wire.manifest(5, "a", ONE, "b", ONE));
        w.hearItem(0, 5, 1, ONE);
        DUE.is("the twin in the version itself", w.link.rank(0, 5, 2, 0), 0);
        DUE.is("partly", have(w, 5), 1);
    }

    /** Manifests with the hash of a file, but another size. */
    private static void sizesCountBesideHashes() {
        DUE.says("holds one of the same size and hash");
        Wire w = Wire.withSlot();
        w.hearVersion(0, 3, "a", ONE);
        byte[] longer = with(Wire.manifest(4, "a", ONE), 5, 5);
        w.hearItem(0, 4, 0, longer);
        DUE.is("the manifest is good", w.link.rank(0, 4, 0, 0), 8);
        DUE.is("the file of the other version has another size", w.link.rank(0, 4, 1, 0), 0);
        DUE.is("the file itself", w.hearItem(0, 4, 1, ONE), 0);
        DUE.is("is forgotten", w.link.rank(0, 4, 1, 0), 0);
        DUE.is("partly", have(w, 4), 1);
        w.hearItem(0, 5, 0, with(Wire.manifest(5, "a", ONE), 13, 1));
        DUE.is("another hash of the same size", w.link.rank(0, 5, 1, 0), 0);
    }

    private static void filesOfRejectedOnes() {
        DUE.says("another version of the folder that is known");
        Wire w = Wire.withSlot();
        w.link.rule(0, 0, true);
        w.hearVersion(0, 3, "a", ONE);
        DUE.is("rejected", have(w, 3), 3);
        w.link.rule(0, 0, false);
        w.hearItem(0, 4, 0, Wire.manifest(4, "b", ONE));
        DUE.is("by the rejected one", have(w, 4), 2);
        w.link.release(0);
        w.hearItem(0, 5, 0, Wire.manifest(5, "c", ONE));
        DUE.is("by the released one", have(w, 5), 2);
        w.link.release(0);
        w.hearItem(0, 2, 0, Wire.manifest(2, "d", ONE));
        DUE.is("for one below the released one", have(w, 2), 2);
    }

    // ---- whole, known

    private static void wholeWithoutFiles() {
        DUE.says("A version is WHOLE when its manifest is good and all files are held.");
        Wire w = Wire.withSlot();
        w.hearItem(1, 3, 0, Wire.manifest(3));
        DUE.is("no files at all", w.link.have(1, 3), 2);
        w.hearItem(1, 4, 1, ONE);
        DUE.is("a file without a manifest", w.link.have(1, 4), 1);
        w.hearItem(1, 5, 0, Wire.manifest(5, "a", NONE));
        DUE.is("an empty file must come, too", w.link.have(1, 5), 1);
        w.hearItem(1, 5, 1, NONE);
        DUE.is("it came", w.link.have(1, 5), 2);
    }

    private static void fourAreKnown() {
        DUE.says("The 4 greatest versions heard of a folder are KNOWN; a fifth one makes the least be forgotten");
        Wire w = Wire.withSlot();
        for (int version : new int[] {6, 2, 8, 4}) {
            w.hearItem(0, version, 0, Wire.manifest(version));
        }
        for (int version = 2; version <= 8; version += 2) {
            DUE.is("version " + version + " of four", have(w, version), 2);
        }
        w.hearItem(0, 7, 0, Wire.manifest(7));
        DUE.is("a whole one is forgotten", have(w, 2), 0);
        DUE.is("its manifest, too", w.link.rank(0, 2, 0, 0), 0);
        DUE.is("the others stay", have(w, 4) + have(w, 6) + have(w, 7) + have(w, 8), 8);
        w.link.rule(1, 0, true);
        w.hearVersion(0, 5, "a", ONE);
        DUE.is("the fifth one is rejected, the least is forgotten", 10 * have(w, 5) + have(w, 4), 30);
        w.hearItem(0, 9, 0, Wire.manifest(9));
        DUE.is("a rejected one is forgotten", have(w, 5), 0);
        DUE.is("the journal keeps it", w.link.journal(0, 1), 5);
        DUE.is("the greatest is released", w.link.release(0), 9);
    }

    private static void forgottenOnesHoldNothing() {
        DUE.says("(one that is released keeps its files)");
        Wire w = Wire.withSlot();
        w.hearVersion(0, 1, "a", ONE);
        w.link.release(0);
        for (int version = 2; version <= 4; version++) {
            w.hearItem(0, version, 0, Wire.manifest(version));
        }
        DUE.is("four are known", have(w, 1), 4);
        w.hear(Wire.packetOf(1, 0, 5, 0, Wire.manifest(5, "a", ONE), 0, 0));
        DUE.is("released, not known any more", have(w, 1), 4);
        DUE.is("rank", w.link.rank(0, 1, 1, 0), 0);
        w.hearItem(0, 5, 0, Wire.manifest(5, "a", ONE));
        DUE.is("it holds no file for others", have(w, 5), 1);
        DUE.is("its own files stay", w.link.file(0, 0, 0, true), 'o');
        DUE.is("its names stay", w.link.file(0, 0, 0, false), 'a');
        w.hearItem(0, 6, 0, Wire.manifest(6));
        DUE.is("one that was whole is forgotten", have(w, 2), 0);
    }

    /** What the least one had is not there for the one that comes instead of it. */
    private static void newVersionsBeginEmpty() {
        DUE.says("a fifth one makes the least be forgotten");
        Wire w = Wire.withSlot();
        w.hearVersion(0, 1, "a", ONE, "b", TWO);
        w.hearItem(0, 2, 0, Wire.manifest(2, "c", ONE));
        w.hearItem(0, 3, 0, Wire.manifest(3));
        w.hearItem(0, 4, 0, Wire.manifest(4));
        w.hear(Wire.packetOf(1, 0, 5, 0, Wire.manifest(5, "a", TWO), 0, 0));
        DUE.is("the fifth one", have(w, 5), 1);
        DUE.is("what it has of item 1", w.link.rank(0, 5, 1, 0), 0);
        w.hearItem(0, 5, 2, LONG);
        DUE.is("a file before the manifest", w.link.rank(0, 5, 2, 0), 8);
        DUE.is("what it has of item 1 then", w.link.rank(0, 5, 1, 0), 0);
        w.hearItem(0, 5, 1, TWO);
        DUE.is("its own file", w.link.rank(0, 5, 1, 0), 8);
        DUE.is("without a manifest", have(w, 5), 1);
        w.hearItem(0, 5, 0, Wire.manifest(5, "a", TWO));
        DUE.is("with it", have(w, 5), 2);
        DUE.is("what it does not have", w.link.rank(0, 5, 2, 0), 0);
        w.hearItem(0, 5, 2, TWO);
        DUE.is("and what comes of it later", w.link.rank(0, 5, 2, 0), 0);
    }
}
