import java.util.ArrayList;
import java.util.Arrays;
import java.util.HashMap;
import java.util.HashSet;
import java.util.List;
import java.util.Map;
import java.util.Set;
import java.util.TreeMap;
import java.util.TreeSet;

/**
 * The document's words once more, told as sets and sums over all subsets, without any thought of
 * speed or room: what DiodeLink answers is compared with it.
 */
final class Model {
    record Row(int folder, int version, int item, int block, int mask, long value) {
        boolean isOf(int f, int v) {
            return folder == f && version == v;
        }

        boolean isOf(int f, int v, int i) {
            return isOf(f, v) && item == i;
        }

        boolean isOf(int f, int v, int i, int b) {
            return isOf(f, v, i) && block == b;
        }
    }

    record Listed(String name, int size, long hash) {
    }

    static final class Copy {
        final Map<Integer, Integer> sizes = new HashMap<>();
        final Map<Integer, byte[]> solved = new HashMap<>();
        final Map<Integer, byte[]> held = new HashMap<>();
        List<Listed> manifest = null;
        int state = 1;
    }

    // the sender
    String nameAtHand = "";
    String dataAtHand = "";
    final List<TreeMap<String, String>> files = List.of(new TreeMap<>(), new TreeMap<>());
    final List<TreeMap<Integer, List<byte[]>>> versions = List.of(new TreeMap<>(), new TreeMap<>());
    int life = 1;
    int turn = 0;
    int newSent = 0;
    int oldSent = 0;
    int sent = 0;
    final byte[][] slots = new byte[32][];

    // the receiver
    int greatestLife = 0;
    int dropped = 0;
    final List<Row> rows = new ArrayList<>();
    final List<TreeMap<Integer, Copy>> known = List.of(new TreeMap<>(), new TreeMap<>());
    final int[] released = new int[2];
    final List<List<Listed>> releasedList = new ArrayList<>(Arrays.asList(null, null));
    final List<Map<Integer, byte[]>> releasedFiles = new ArrayList<>(Arrays.asList(null, null));
    int mostBytes = -1;
    int mostFiles = -1;
    final Set<Integer> badSigns = new HashSet<>();
    final Set<Integer> badFirsts = new HashSet<>();
    final List<long[]> journal = new ArrayList<>();

    private static byte[] bytes(String text) {
        return Wire.bytes(text);
    }

    // ---- the sender

    long feed(boolean data, long value, int n) {
        if (n < 1 || n > 8) {
            throw new IllegalArgumentException();
        }
        StringBuilder more = new StringBuilder(data ? dataAtHand : nameAtHand);
        for (int i = n - 1; i >= 0; i--) {
            more.append((char) (value >> 8 * i & 255));
        }
        if (more.length() > (data ? 96 : 6)) {
            throw new IllegalStateException();
        }
        if (data) {
            dataAtHand = more.toString();
        } else {
            nameAtHand = more.toString();
        }
        return more.length();
    }

    long write(int folder) {
        String name = nameAtHand;
        String data = dataAtHand;
        nameAtHand = "";
        dataAtHand = "";
        if (folder < 0 || folder > 1 || !name.matches("[!-~]{1,6}")) {
            throw new IllegalArgumentException();
        }
        if (files.get(folder).size() == 6 && !files.get(folder).containsKey(name)) {
            throw new IllegalStateException();
        }
        files.get(folder).put(name, data);
        return files.get(folder).size();
    }

    long remove(int folder) {
        String name = nameAtHand;
        nameAtHand = "";
        checkFolder(folder);
        return files.get(folder).remove(name) != null ? 1 : 0;
    }

    long commit(int folder) {
        checkFolder(folder);
        TreeMap<Integer, List<byte[]>> of = versions.get(folder);
        int number = of.isEmpty() ? 1 : of.lastKey() + 1;
        if (number > 1000) {
            throw new IllegalStateException();
        }
        List<Object> parts = new ArrayList<>();
        List<byte[]> items = new ArrayList<>();
        files.get(folder).forEach((name, data) -> {
            parts.add(name);
            parts.add(bytes(data));
            items.add(bytes(data));
        });
        items.add(0, Wire.manifest(number, parts.toArray()));
        of.put(number, items);
        of.keySet().removeIf(old -> old <= number - 3);
        beginRounds();
        return number;
    }

    private void beginRounds() {
        turn = 0;
        newSent = 0;
        oldSent = 0;
    }

    private List<byte[]> packets(boolean old) {
        List<byte[]> all = new ArrayList<>();
        for (int folder = 0; folder < 2; folder++) {
            for (int number : versions.get(folder).keySet()) {
                if ((number != versions.get(folder).lastKey()) == old) {
                    addPackets(all, folder, number);
                }
            }
        }
        return all;
    }

    private void addPackets(List<byte[]> all, int folder, int number) {
        List<byte[]> items = versions.get(folder).get(number);
        for (int item = 0; item < items.size(); item++) {
            byte[] data = items.get(item);
            for (int block = 0; block < Wire.blocks(data.length); block++) {
                for (int j = 0; j < 2 * Wire.pieces(data.length, block); j++) {
                    all.add(Wire.packetOf(life, folder, number, item, data, block, j));
                }
            }
        }
    }

    long send() {
        List<byte[]> fresh = packets(false);
        List<byte[]> old = packets(true);
        if (fresh.isEmpty()) {
            throw new IllegalStateException();
        }
        boolean isOld = turn % 4 == 3 && !old.isEmpty();
        byte[] packet = isOld ? old.get(oldSent++ % old.size()) : fresh.get(newSent++ % fresh.size());
        turn++;
        slots[sent % 32] = packet;
        return sent++ % 32;
    }

    long packet(int slot, int i) {
        checkSlot(slot);
        if (i != 0 && i != 8 && i != 16) {
            throw new IllegalArgumentException();
        }
        return java.nio.ByteBuffer.wrap(slots[slot]).getLong(i);
    }

    long alter(int slot, int i, int bits) {
        checkSlot(slot);
        if (i < 0 || i > 23) {
            throw new IllegalArgumentException();
        }
        slots[slot][i] ^= (byte) bits;
        return 0;
    }

    long restartSender() {
        if (life == 255) {
            throw new IllegalStateException();
        }
        life++;
        beginRounds();
        return life;
    }

    private void checkSlot(int slot) {
        if (slot < 0 || slot > 31 || slots[slot] == null) {
            throw new IllegalArgumentException();
        }
    }

    private void checkFolder(int folder) {
        if (folder != 0 && folder != 1) {
            throw new IllegalArgumentException();
        }
    }

    // ---- the receiver

    long hear(int slot) {
        checkSlot(slot);
        int why = listen(slots[slot]);
        dropped += why != 0 ? 1 : 0;
        return why;
    }

    private int listen(byte[] p) {
        java.nio.ByteBuffer buffer = java.nio.ByteBuffer.wrap(p);
        if (Wire.hash(p, 16) != buffer.getLong(16)) {
            return 1;
        }
        int packetLife = p[0] & 255;
        if (packetLife > greatestLife) {
            greatestLife = packetLife;
            rows.clear();
        }
        if (packetLife < greatestLife) {
            return 2;
        }
        int f = p[1] & 255;
        int v = buffer.getShort(2) & 65535;
        int i = p[4] & 255;
        int b = p[5] & 255;
        int j = p[6] & 255;
        int size = p[7] & 255;
        if (f > 1 || v == 0 || i > 6 || size > 104 || b >= Wire.blocks(size) || j >= 2 * Wire.pieces(size, b)) {
            return 3;
        }
        if (known.get(f).size() == 4 && v < known.get(f).firstKey()) {
            return 3;
        }
        known.get(f).putIfAbsent(v, new Copy());
        if (known.get(f).size() > 4) {
            int least = known.get(f).firstKey();
            known.get(f).remove(least);
            rows.removeIf(row -> row.isOf(f, least));
        }
        Copy copy = known.get(f).get(v);
        boolean has = rows.stream().anyMatch(row -> row.isOf(f, v, i))
            || copy.solved.containsKey(2 * i) || copy.solved.containsKey(2 * i + 1);
        if (has && copy.sizes.get(i) != size || copy.solved.containsKey(2 * i + b)) {
            return 4;
        }
        int n = Wire.pieces(size, b);
        int mask = Wire.mask(v, i, b, j, n);
        if (sums(f, v, i, b).containsKey(mask)) {
            return 5;
        }
        if (rows.size() == 24 && !makeRoom()) {
            return 6;
        }
        copy.sizes.put(i, size);
        rows.add(new Row(f, v, i, b, mask, buffer.getLong(8)));
        if (rank(f, v, i, b) == n) {
            solve(f, v, i, b, n);
            settle(f, v, i);
        }
        return 0;
    }

    /** All sums of rows of a block, with the sum of nothing. */
    private Map<Integer, Long> sums(int f, int v, int i, int b) {
        Map<Integer, Long> sums = new HashMap<>();
        sums.put(0, 0L);
        for (Row row : rows) {
            if (row.isOf(f, v, i, b)) {
                new HashMap<>(sums).forEach((mask, value) -> sums.put(mask ^ row.mask, value ^ row.value));
            }
        }
        return sums;
    }

    private boolean makeRoom() {
        TreeSet<Integer> numbers = new TreeSet<>();
        rows.forEach(row -> numbers.add(row.version));
        for (int v : numbers) {
            for (int f = 0; f < 2; f++) {
                int folder = f;
                boolean greatest = known.get(f).isEmpty() || known.get(f).lastKey() == v;
                if (!greatest && rows.removeIf(row -> row.isOf(folder, v))) {
                    return true;
                }
            }
        }
        return false;
    }

    private void solve(int f, int v, int i, int b, int n) {
        Copy copy = known.get(f).get(v);
        Map<Integer, Long> sums = sums(f, v, i, b);
        int length = Math.min(64, copy.sizes.get(i) - 64 * b);
        java.nio.ByteBuffer all = java.nio.ByteBuffer.allocate(8 * n);
        for (int k = 0; k < n; k++) {
            all.putLong(sums.get(1 << k));
        }
        copy.solved.put(2 * i + b, Arrays.copyOf(all.array(), length));
        rows.removeIf(row -> row.isOf(f, v, i, b));
    }

    /** The bytes of an item whose blocks are all solved, otherwise null. */
    private byte[] complete(Copy copy, int i) {
        byte[] first = copy.solved.get(2 * i);
        byte[] second = copy.solved.get(2 * i + 1);
        if (first == null || copy.sizes.get(i) > 64 && second == null) {
            return null;
        }
        byte[] all = Arrays.copyOf(first, copy.sizes.get(i));
        if (second != null) {
            System.arraycopy(second, 0, all, 64, second.length);
        }
        return all;
    }

    private void forget(int f, int v, int i) {
        Copy copy = known.get(f).get(v);
        copy.solved.remove(2 * i);
        copy.solved.remove(2 * i + 1);
        rows.removeIf(row -> row.isOf(f, v, i));
    }

    private void settle(int f, int v, int i) {
        Copy copy = known.get(f).get(v);
        byte[] bytes = complete(copy, i);
        if (bytes == null) {
            return;
        }
        if (i == 0) {
            copy.manifest = read(v, bytes);
            if (copy.manifest == null) {
                forget(f, v, 0);
            }
        }
        if (copy.manifest != null) {
            for (int item = 1; item <= 6; item++) {
                if (i == 0 || item == i) {
                    lookAt(f, v, item, i == 0);
                }
            }
        }
        spread(f);
        judge(f);
    }

    private void lookAt(int f, int v, int item, boolean manifestIsNew) {
        Copy copy = known.get(f).get(v);
        byte[] bytes = complete(copy, item);
        if (item > copy.manifest.size()) {
            if (bytes != null || manifestIsNew) {
                forget(f, v, item);
            }
        } else if (bytes != null) {
            Listed listed = copy.manifest.get(item - 1);
            if (bytes.length == listed.size && Wire.hash(bytes) == listed.hash) {
                copy.held.put(item, bytes);
            } else {
                forget(f, v, item);
            }
        }
    }

    private static List<Listed> read(int version, byte[] m) {
        List<Listed> list = new ArrayList<>();
        if (m.length < 3 || (m[0] & 255) * 256 + (m[1] & 255) != version || (m[2] & 255) > 6) {
            return null;
        }
        int at = 3;
        for (int k = 0; k < m[2]; k++) {
            int length = at < m.length ? m[at] & 255 : 0;
            if (length < 1 || length > 6 || at + 10 + length > m.length) {
                return null;
            }
            String name = new String(m, at + 1, length, java.nio.charset.StandardCharsets.ISO_8859_1);
            int size = m[at + 1 + length] & 255;
            boolean inOrder = k == 0 || list.get(k - 1).name.compareTo(name) < 0;
            if (!name.matches("[!-~]+") || size > 96 || !inOrder) {
                return null;
            }
            list.add(new Listed(name, size, java.nio.ByteBuffer.wrap(m).getLong(at + 2 + length)));
            at += 10 + length;
        }
        return at == m.length ? list : null;
    }

    private void spread(int f) {
        boolean changed = true;
        while (changed) {
            changed = false;
            for (int v : known.get(f).keySet()) {
                Copy copy = known.get(f).get(v);
                for (int k = 1; copy.manifest != null && k <= copy.manifest.size(); k++) {
                    if (!copy.held.containsKey(k)) {
                        changed |= copyFromOther(f, v, k);
                    }
                }
            }
        }
    }

    private boolean copyFromOther(int f, int v, int k) {
        Copy copy = known.get(f).get(v);
        Listed wanted = copy.manifest.get(k - 1);
        for (int u : known.get(f).keySet()) {
            Copy other = known.get(f).get(u);
            for (int item : other.held.keySet()) {
                Listed listed = other.manifest.get(item - 1);
                if (u != v && listed.size == wanted.size && listed.hash == wanted.hash) {
                    byte[] bytes = other.held.get(item);
                    forget(f, v, k);
                    copy.held.put(k, bytes);
                    copy.sizes.put(k, bytes.length);
                    copy.solved.put(2 * k, Arrays.copyOf(bytes, Math.min(64, bytes.length)));
                    if (bytes.length > 64) {
                        copy.solved.put(2 * k + 1, Arrays.copyOfRange(bytes, 64, bytes.length));
                    }
                    return true;
                }
            }
        }
        return false;
    }

    private void judge(int f) {
        for (int v : known.get(f).keySet()) {
            Copy copy = known.get(f).get(v);
            if (copy.state == 1 && copy.manifest != null && copy.held.size() == copy.manifest.size()) {
                copy.state = 2;
                int broken = firstBroken(copy);
                if (broken != 0) {
                    copy.state = 3;
                    enter(f, v, broken / 10, broken % 10);
                }
            }
        }
    }

    /** Ten times the reason, and the item; 0 for none. */
    private int firstBroken(Copy copy) {
        for (int k = 1; k <= copy.manifest.size(); k++) {
            if (mostBytes >= 0 && copy.manifest.get(k - 1).size > mostBytes) {
                return 10 + k;
            }
        }
        if (mostFiles >= 0 && copy.manifest.size() > mostFiles) {
            return 20;
        }
        for (int k = 1; k <= copy.manifest.size(); k++) {
            if (copy.manifest.get(k - 1).name.chars().anyMatch(badSigns::contains)) {
                return 30 + k;
            }
        }
        for (int k = 1; k <= copy.manifest.size(); k++) {
            byte[] bytes = copy.held.get(k);
            if (bytes.length > 0 && badFirsts.contains(bytes[0] & 255)) {
                return 40 + k;
            }
        }
        return 0;
    }

    private void enter(int f, int v, int reason, int item) {
        long before = journal.isEmpty() ? 0 : journal.get(journal.size() - 1)[4];
        journal.add(new long[] {f, v, reason, item, link(before, f, v, reason, item)});
    }

    private static long link(long before, long f, long v, long reason, long item) {
        java.nio.ByteBuffer linked = java.nio.ByteBuffer.allocate(13);
        linked.putLong(before).put((byte) f).putShort((short) v).put((byte) reason).put((byte) item);
        return Wire.hash(linked.array());
    }

    long restartReceiver() {
        rows.clear();
        return 0;
    }

    long rule(int kind, int value, boolean on) {
        if (kind < 0 || kind > 3 || value < 0 || value > new int[] {96, 6, 255, 255}[kind]) {
            throw new IllegalArgumentException();
        }
        if (kind == 0) {
            mostBytes = on ? value : -1;
        } else if (kind == 1) {
            mostFiles = on ? value : -1;
        } else {
            Set<Integer> bad = kind == 2 ? badSigns : badFirsts;
            bad.remove(value);
            if (on) {
                bad.add(value);
            }
        }
        return 0;
    }

    long have(int folder, int version) {
        checkFolder(folder);
        if (version < 1 || version > 65535) {
            throw new IllegalArgumentException();
        }
        if (released[folder] == version) {
            return 4;
        }
        Copy copy = known.get(folder).get(version);
        return copy == null ? 0 : copy.state;
    }

    long rank(int f, int v, int i, int b) {
        checkFolder(f);
        if (v < 1 || v > 65535 || i < 0 || i > 6 || b < 0 || b > 1) {
            throw new IllegalArgumentException();
        }
        Copy copy = known.get(f).get(v);
        if (copy != null && copy.solved.containsKey(2 * i + b)) {
            return 8;
        }
        return rows.stream().filter(row -> row.isOf(f, v, i, b)).count();
    }

    long release(int folder) {
        checkFolder(folder);
        for (int v : known.get(folder).descendingKeySet()) {
            Copy copy = known.get(folder).get(v);
            if (copy.state == 2 && v > released[folder]) {
                copy.state = 5;
                released[folder] = v;
                releasedList.set(folder, copy.manifest);
                releasedFiles.set(folder, copy.held);
                enter(folder, v, 0, 0);
                return v;
            }
        }
        return 0;
    }

    long released(int folder) {
        checkFolder(folder);
        return released[folder];
    }

    long file(int folder, int k, int i, boolean data) {
        checkFolder(folder);
        List<Listed> list = releasedList.get(folder);
        if (list == null || k < 0 || k >= list.size()) {
            throw new IndexOutOfBoundsException();
        }
        byte[] bytes = data ? releasedFiles.get(folder).get(k + 1) : bytes(list.get(k).name);
        if (i == -1) {
            return bytes.length;
        }
        if (i < 0 || i >= bytes.length) {
            throw new IndexOutOfBoundsException();
        }
        return bytes[i] & 255;
    }

    long journal(int k, int what) {
        if (what < 0 || what > 4) {
            throw new IllegalArgumentException();
        }
        if (k == -1) {
            return journal.size();
        }
        checkKept(k);
        return journal.get(k)[what];
    }

    long touch(int k, int what, int bits) {
        if (what < 0 || what > 3) {
            throw new IllegalArgumentException();
        }
        checkKept(k);
        journal.get(k)[what] ^= bits & 255;
        return 0;
    }

    private void checkKept(int k) {
        if (k < 0 || k >= journal.size() || k < journal.size() - 30) {
            throw new IndexOutOfBoundsException();
        }
    }

    long isSound() {
        for (int k = Math.max(0, journal.size() - 30); k < journal.size(); k++) {
            long[] e = journal.get(k);
            if (e[4] != link(k == 0 ? 0 : journal.get(k - 1)[4], e[0], e[1], e[2], e[3])) {
                return 0;
            }
        }
        return 1;
    }

    long count(int what) {
        if (what < 0 || what > 2) {
            throw new IllegalArgumentException();
        }
        return new int[] {dropped, rows.size(), sent}[what];
    }
}
