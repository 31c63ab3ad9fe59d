import java.io.ByteArrayOutputStream;
import java.nio.ByteBuffer;
import java.nio.charset.StandardCharsets;

/**
 * The sender's file calls in one, and packets that no sender made: a slot is altered until it has
 * the bytes that are wanted, with a hash that fits.
 */
final class Wire {
    final DiodeLink link;
    private int calls = 0;
    private byte[] left = null;

    Wire() {
        this.link = new DiodeLink();
    }

    /** A link whose slot 0 has a packet, so that it can be altered; the receiver has heard nothing. */
    static Wire withSlot() {
        Wire wire = new Wire();
        wire.link.commit(0);
        wire.link.send();
        return wire;
    }

    static byte[] bytes(String text) {
        return text.getBytes(StandardCharsets.ISO_8859_1);
    }

    static byte[] filled(int size, int value) {
        byte[] bytes = new byte[size];
        java.util.Arrays.fill(bytes, (byte) value);
        return bytes;
    }

    static long hash(byte[] bytes, int n) {
        long h = -3750763034362895579L;
        for (int i = 0; i < n; i++) {
            h = (h ^ bytes[i] & 255) * 1099511628211L;
        }
        return h;
    }

    static long hash(byte[] bytes) {
        return hash(bytes, bytes.length);
    }

    static int blocks(int size) {
        return size <= 64 ? 1 : 2;
    }

    static int pieces(int size, int block) {
        int here = block == 0 ? Math.min(size, 64) : size - 64;
        return here <= 0 ? 1 : (here + 7) / 8;
    }

    static int mask(int version, int item, int block, int j, int n) {
        if (j < n) {
            return 1 << j;
        }
        int x = 40503 * (j + 1) * (j + 7) + 9973 * (block + 1) + 977 * item + 31 * version;
        int bits = (int) ((x & 0xffffffffL) / 256) & (1 << n) - 1;
        return bits == 0 ? (1 << n) - 1 : bits;
    }

    static long sum(byte[] bytes, int block, int mask) {
        long sum = 0;
        for (int k = 0; k < 8; k++) {
            for (int i = 0; i < 8 && (mask >> k & 1) == 1; i++) {
                int at = block * 64 + k * 8 + i;
                sum ^= at < bytes.length ? (bytes[at] & 255L) << 56 - 8 * i : 0;
            }
        }
        return sum;
    }

    /** Name and bytes by turns, in the order in which they shall stand. */
    static byte[] manifest(int version, Object... namesAndBytes) {
        ByteArrayOutputStream out = new ByteArrayOutputStream();
        out.write(version >> 8);
        out.write(version);
        out.write(namesAndBytes.length / 2);
        for (int k = 0; k < namesAndBytes.length; k += 2) {
            byte[] name = bytes((String) namesAndBytes[k]);
            byte[] bytes = (byte[]) namesAndBytes[k + 1];
            out.write(name.length);
            out.write(name, 0, name.length);
            out.write(bytes.length);
            out.write(ByteBuffer.allocate(8).putLong(hash(bytes)).array(), 0, 8);
        }
        return out.toByteArray();
    }

    /** The 24 bytes of a packet, of which size may be another one than the bytes have. */
    static byte[] packet(int life, int folder, int version, int item, int block, int j, int size, long value) {
        ByteBuffer packet = ByteBuffer.allocate(24);
        packet.put((byte) life).put((byte) folder).putShort((short) version);
        packet.put((byte) item).put((byte) block).put((byte) j).put((byte) size).putLong(value);
        return packet.putLong(hash(packet.array(), 16)).array();
    }

    /** Packet j of an item's bytes, as a sender makes it. */
    static byte[] packetOf(int life, int folder, int version, int item, byte[] bytes, int block, int j) {
        int mask = mask(version, item, block, j, pieces(bytes.length, block));
        return packet(life, folder, version, item, block, j, bytes.length, sum(bytes, block, mask));
    }

    int calls() {
        return calls;
    }

    byte[] read(int slot) {
        calls += 3;
        ByteBuffer now = ByteBuffer.allocate(24);
        return now.putLong(link.packet(slot, 0)).putLong(link.packet(slot, 8)).putLong(link.packet(slot, 16)).array();
    }

    /** What slot 0 has: calls are scarce, so it is read anew only when its hash is not the one left there. */
    private byte[] slotZero() {
        calls++;
        long hash = link.packet(0, 16);
        return left != null && ByteBuffer.wrap(left).getLong(16) == hash ? left : read(0);
    }

    /** Alters slot 0 into a packet, and hears it. */
    int hear(byte[] packet) {
        byte[] now = slotZero();
        left = packet.clone();
        for (int i = 0; i < 24; i++) {
            if (now[i] != packet[i]) {
                calls++;
                link.alter(0, i, now[i] ^ packet[i]);
            }
        }
        calls++;
        return link.hear(0);
    }

    /** Hears plain pieces of a whole item in life 1: the answer to the last one. */
    int hearItem(int folder, int version, int item, byte[] bytes) {
        int answer = 0;
        for (int block = 0; block < blocks(bytes.length); block++) {
            for (int j = 0; j < pieces(bytes.length, block); j++) {
                answer = hear(packetOf(1, folder, version, item, bytes, block, j));
            }
        }
        return answer;
    }

    /** Hears the manifest and all files of a version: name and bytes by turns. */
    void hearVersion(int folder, int version, Object... namesAndBytes) {
        hearItem(folder, version, 0, manifest(version, namesAndBytes));
        for (int k = 0; k < namesAndBytes.length; k += 2) {
            hearItem(folder, version, k / 2 + 1, (byte[]) namesAndBytes[k + 1]);
        }
    }

    /** All that can be asked of some versions of a folder, of the rows and of the journal. */
    String told(int folder, int... versions) {
        StringBuilder told = new StringBuilder();
        for (int version : versions) {
            told.append(" v").append(version).append(':').append(link.have(folder, version)).append('/');
            for (int item = 0; item < 7; item++) {
                told.append(link.rank(folder, version, item, 0)).append(link.rank(folder, version, item, 1));
            }
            calls += 15;
        }
        calls += 4;
        return told + " rows " + link.count(1) + " released " + link.released(folder) + " entries "
            + link.journal(-1, 0) + " sound " + link.isSound();
    }

    void feed(boolean data, byte[] bytes) {
        for (int from = 0; from < bytes.length; from += 8) {
            int n = Math.min(8, bytes.length - from);
            long value = 0;
            for (int i = 0; i < n; i++) {
                value = value << 8 | bytes[from + i] & 255;
            }
            calls++;
            link.feed(data, value, n);
        }
    }

    int write(int folder, String name, byte[] bytes) {
        feed(false, bytes(name));
        feed(true, bytes);
        calls++;
        return link.write(folder);
    }

    boolean remove(int folder, String name) {
        feed(false, bytes(name));
        calls++;
        return link.remove(folder);
    }
}
