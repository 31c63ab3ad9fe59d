import java.util.ArrayList;
import java.util.Arrays;
import java.util.List;

/** Promises 6 to 8 and 10: send, packet, alter, restartSender. */
public final class SendTest {
    private static final Due DUE = new Due("SendTest");

    public static void main(String[] args) {
        ordersAndRounds();
        cutsAndMasks();
        slotsGoAround();
        sendWithoutVersion();
        packetAndAlterRefuse();
        alterTurnsBits();
        restartSenderCountsLives();
        DUE.end();
    }

    private static void isSent(Wire w, String what, byte[] want) {
        DUE.is(what, Arrays.equals(w.read(w.link.send()), want), true);
    }

    private static List<byte[]> allOf(int life, int folder, int version, byte[]... items) {
        List<byte[]> all = new ArrayList<>();
        for (int item = 0; item < items.length; item++) {
            for (int block = 0; block < Wire.blocks(items[item].length); block++) {
                for (int j = 0; j < 2 * Wire.pieces(items[item].length, block); j++) {
                    all.add(Wire.packetOf(life, folder, version, item, items[item], block, j));
                }
            }
        }
        return all;
    }

    /** New ones and old ones by turns, each sort in its order and around. */
    private static void ordersAndRounds() {
        Wire w = new Wire();
        byte[] a = Wire.bytes("first");
        w.write(0, "a", a);
        w.link.commit(0);
        List<byte[]> first = allOf(1, 0, 1, Wire.manifest(1, "a", a), a);
        for (int c = 0; c < 2 * first.size() + 1; c++) {
            isSent(w, "one version, send " + c, first.get(c % first.size()));
        }
        w.link.commit(1);
        List<byte[]> fresh = new ArrayList<>(first);
        fresh.addAll(allOf(1, 1, 1, Wire.manifest(1)));
        for (int c = 0; c < fresh.size() + 2; c++) {
            isSent(w, "both folders, send " + c, fresh.get(c % fresh.size()));
        }
        for (int number = 2; number <= 4; number++) {
            w.link.commit(0);
        }
        w.link.commit(1);
        fresh = allOf(1, 0, 4, Wire.manifest(4, "a", a), a);
        fresh.addAll(allOf(1, 1, 2, Wire.manifest(2)));
        List<byte[]> old = allOf(1, 0, 2, Wire.manifest(2, "a", a), a);
        old.addAll(allOf(1, 0, 3, Wire.manifest(3, "a", a), a));
        old.addAll(allOf(1, 1, 1, Wire.manifest(1)));
        for (int c = 0; c < 70; c++) {
            isSent(w, "old and new, send " + c,
                c % 4 == 3 ? old.get(c / 4 % old.size()) : fresh.get((c - c / 4) % fresh.size()));
        }
        w.link.commit(1);
        isSent(w, "a commit of the other folder begins anew", fresh.get(0));
    }

    private static void cutsAndMasks() {
        for (int size : new int[] {0, 1, 8, 9, 63, 64, 65, 72, 73, 96}) {
            Wire w = new Wire();
            byte[] bytes = new byte[size];
            for (int i = 0; i < size; i++) {
                bytes[i] = (byte) (37 * i + size);
            }
            w.write(1, "abcdef", bytes);
            w.link.commit(1);
            for (byte[] want : allOf(1, 1, 1, Wire.manifest(1, "abcdef", bytes), bytes)) {
                isSent(w, "size " + size, want);
            }
        }
        // A manifest of more than a block.
        Wire w = new Wire();
        Object[] parts = new Object[12];
        byte[][] items = new byte[7][];
        for (int k = 0; k < 6; k++) {
            parts[2 * k] = "name-" + k;
            parts[2 * k + 1] = Wire.filled(k, 7);
            items[k + 1] = Wire.filled(k, 7);
            w.write(0, "name-" + k, Wire.filled(k, 7));
        }
        items[0] = Wire.manifest(1, parts);
        w.link.commit(0);
        DUE.is("the longest manifest", items[0].length, 99);
        for (byte[] want : allOf(1, 0, 1, items)) {
            isSent(w, "six files", want);
        }
    }

    private static void slotsGoAround() {
        DiodeLink x = new DiodeLink();
        x.commit(0);
        for (int s = 0; s < 70; s++) {
            DUE.is("slot of packet " + s, x.send(), s % 32);
            DUE.is("packets sent", x.count(2), s + 1);
        }
        long before = x.packet(7, 0);
        x.commit(0);
        DUE.is("the next slot behind a commit", x.send(), 6);
        DUE.is("what a slot has stays", x.packet(7, 0), before);
        x.send();
        DUE.is("until the next one comes there", x.packet(7, 0), 0x0100000200000103L);
    }

    private static void sendWithoutVersion() {
        Wire w = new Wire();
        w.write(0, "a", Wire.bytes("a"));
        DUE.refusesState("send() with a file, but no version", () -> w.link.send());
        w.link.restartSender();
        DUE.refusesState("send() behind a restart", () -> w.link.send());
        DUE.is("nothing was sent", w.link.count(2), 0);
        w.link.commit(0);
        DUE.is("the first slot", w.link.send(), 0);
    }

    private static void packetAndAlterRefuse() {
        DiodeLink x = new DiodeLink();
        x.commit(0);
        x.send();
        for (int slot : new int[] {-1, 1, 31, 32, Integer.MIN_VALUE, Integer.MAX_VALUE}) {
            DUE.refusesArgument("packet of slot " + slot, () -> x.packet(slot, 0));
            DUE.refusesArgument("hear of slot " + slot, () -> x.hear(slot));
            DUE.refusesArgument("alter of slot " + slot, () -> {
                x.alter(slot, 0, 1);
                return 0;
            });
        }
        for (int i : new int[] {-8, -1, 1, 4, 7, 9, 17, 23, 24, Integer.MAX_VALUE}) {
            DUE.refusesArgument("packet of place " + i, () -> x.packet(0, i));
        }
        for (int i : new int[] {-1, 24, Integer.MIN_VALUE, Integer.MAX_VALUE}) {
            DUE.refusesArgument("alter of byte " + i, () -> {
                x.alter(0, i, 1);
                return 0;
            });
        }
        DUE.is("nothing was heard", x.count(0), 0);
        DUE.is("the packet stands", x.packet(0, 0), 0x0100000100000003L);
    }

    private static void alterTurnsBits() {
        DiodeLink x = new DiodeLink();
        x.commit(0);
        x.send();
        x.send();
        long third = x.packet(0, 16);
        x.alter(0, 0, 0x80);
        x.alter(0, 7, 0x1FF);
        x.alter(0, 8, -256);
        x.alter(0, 15, 3);
        x.alter(0, 16, 255);
        x.alter(0, 23, 1);
        DUE.is("bytes 0 .. 7", x.packet(0, 0), 0x81000001000000FCL);
        DUE.is("bytes 8 .. 15", x.packet(0, 8), 0x0001000000000003L);
        DUE.is("bytes 16 .. 23", x.packet(0, 16), third ^ 0xFF00000000000001L);
        DUE.is("the other slot", x.packet(1, 0), 0x0100000100000103L);
        x.alter(0, 7, 255);
        DUE.is("turned again", x.packet(0, 0), 0x8100000100000003L);
    }

    private static void restartSenderCountsLives() {
        Wire w = new Wire();
        DiodeLink x = w.link;
        byte[] a = Wire.bytes("first");
        w.write(0, "a", a);
        x.commit(0);
        x.commit(0);
        for (int c = 0; c < 5; c++) {
            x.send();
        }
        long before = x.packet(4, 0);
        w.feed(false, Wire.bytes("x"));
        DUE.is("the second life", x.restartSender(), 2);
        DUE.is("the name at hand stays", x.feed(false, 0x79L, 1), 2);
        DUE.is("what slots have stays", x.packet(4, 0), before);
        List<byte[]> fresh = allOf(2, 0, 2, Wire.manifest(2, "a", a), a);
        List<byte[]> old = allOf(2, 0, 1, Wire.manifest(1, "a", a), a);
        for (int c = 0; c < 8; c++) {
            isSent(w, "send " + c + " behind a restart", c % 4 == 3 ? old.get(c / 4) : fresh.get(c - c / 4));
        }
        DUE.is("packets sent ever", x.count(2), 13);
        for (int life = 3; life <= 255; life++) {
            DUE.is("life", x.restartSender(), life);
        }
        x.send();
        DUE.refusesState("life 256", () -> x.restartSender());
        isSent(w, "a restart that was refused changes nothing", allOf(255, 0, 2, Wire.manifest(2, "a", a), a).get(1));
    }
}
