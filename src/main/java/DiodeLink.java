/**
 * A one-way file link: a sender that repeats pieces of its versions without end, and a receiver
 * that solves for what it hears, judges whole versions and releases them.
 */
public final class DiodeLink {
    private static final int FOLDERS = 2;
    private static final int FILES = 6;
    private static final int ITEMS = 7;
    private static final int NAME_LIMIT = 6;
    private static final int DATA_LIMIT = 96;
    private static final int ITEM_LIMIT = 104;
    private static final int NUMBER_LIMIT = 65535;

    private static final int BLOCK_SIZE = 64;
    private static final int ITEM_BLOCKS = 2;
    private static final int PIECE_SIZE = 8;

    private static final int SLOTS = 32;
    private static final int PACKET_SIZE = 24;
    private static final int HASHED_SIZE = 16;
    private static final int HASH_SIZE = 8;
    private static final int AT_LIFE = 0;
    private static final int AT_FOLDER = 1;
    private static final int AT_VERSION = 2;
    private static final int AT_ITEM = 4;
    private static final int AT_BLOCK = 5;
    private static final int AT_J = 6;
    private static final int AT_SIZE = 7;
    private static final int AT_BYTES = 8;

    private static final int PARTLY = 1;
    private static final int WHOLE = 2;
    private static final int REJECTED = 3;
    private static final int RELEASED = 4;
    private static final int RELEASED_BEFORE = 5;

    private final Bytes nameAtHand = new Bytes(NAME_LIMIT);
    private final Bytes dataAtHand = new Bytes(DATA_LIMIT);
    private final Sender sender = new Sender();
    private final Bytes[] slots = new Bytes[SLOTS];
    private final Rules rules = new Rules();
    private final Journal journal = new Journal();
    private final Receiver receiver = new Receiver(rules, journal);
    private int packetsSent = 0;

    public DiodeLink() {
        for (int slot = 0; slot < SLOTS; slot++) {
            slots[slot] = new Bytes(PACKET_SIZE);
        }
    }

    public int feed(boolean data, long bytes, int n) throws IllegalArgumentException, IllegalStateException {
        if (n < 1 || n > 8) {
            throw new IllegalArgumentException("1 to 8 bytes at a time");
        }
        Bytes atHand = data ? dataAtHand : nameAtHand;
        if (atHand.size() + n > atHand.limit()) {
            throw new IllegalStateException("more than a name or a file can have");
        }
        atHand.append(bytes, n);
        return atHand.size();
    }

    public int write(int folder) throws IllegalArgumentException, IllegalStateException {
        boolean allowed = isFolder(folder) && nameAtHand.isName(0, nameAtHand.size());
        int files = allowed ? sender.folder(folder).put(nameAtHand, dataAtHand) : 0;
        nameAtHand.clear();
        dataAtHand.clear();
        if (!allowed) {
            throw new IllegalArgumentException("no such folder, or no name");
        }
        if (files == 0) {
            throw new IllegalStateException("the folder has 6 other files");
        }
        return files;
    }

    public boolean remove(int folder) throws IllegalArgumentException {
        boolean allowed = isFolder(folder);
        boolean gone = allowed && sender.folder(folder).takeOut(nameAtHand);
        nameAtHand.clear();
        if (!allowed) {
            throw new IllegalArgumentException("no such folder");
        }
        return gone;
    }

    public int commit(int folder) throws IllegalArgumentException, IllegalStateException {
        checkFolder(folder);
        int number = sender.makeVersion(folder);
        if (number == 0) {
            throw new IllegalStateException("there were 1,000 versions");
        }
        return number;
    }

    public int send() throws IllegalStateException {
        // Not %: no call may throw by itself, not even when the count has gone round.
        int slot = Math.floorMod(packetsSent, SLOTS);
        if (!sender.fillNext(slots[slot])) {
            throw new IllegalStateException("no version at all");
        }
        packetsSent++;
        return slot;
    }

    public long packet(int slot, int i) throws IllegalArgumentException {
        checkSlot(slot);
        if (i != 0 && i != 8 && i != 16) {
            throw new IllegalArgumentException("no such place");
        }
        return slots[slot].number(i, 8);
    }

    public void alter(int slot, int i, int bits) throws IllegalArgumentException {
        checkSlot(slot);
        if (i < 0 || i >= PACKET_SIZE) {
            throw new IllegalArgumentException("no such byte");
        }
        slots[slot].turn(i, bits);
    }

    public int hear(int slot) throws IllegalArgumentException {
        checkSlot(slot);
        return receiver.listen(slots[slot]);
    }

    public int restartSender() throws IllegalStateException {
        if (!sender.beginLife()) {
            throw new IllegalStateException("it was the last life");
        }
        return sender.life();
    }

    public void restartReceiver() {
        receiver.loseRows();
    }

    public void rule(int kind, int value, boolean on) throws IllegalArgumentException {
        if (value < 0 || value > Rules.greatestValue(kind)) {
            throw new IllegalArgumentException("no such rule");
        }
        rules.set(kind, value, on);
    }

    public int have(int folder, int version) throws IllegalArgumentException {
        checkVersion(folder, version);
        return receiver.stateOf(folder, version);
    }

    public int rank(int folder, int version, int item, int block) throws IllegalArgumentException {
        checkVersion(folder, version);
        if (item < 0 || item >= ITEMS || block < 0 || block >= ITEM_BLOCKS) {
            throw new IllegalArgumentException("no such item or block");
        }
        return receiver.rowsOf(folder, version, item, block);
    }

    public int release(int folder) throws IllegalArgumentException {
        checkFolder(folder);
        return receiver.letOut(folder);
    }

    public int released(int folder) throws IllegalArgumentException {
        checkFolder(folder);
        return receiver.shown(folder).number();
    }

    public int file(int folder, int k, int i, boolean data)
            throws IllegalArgumentException, IndexOutOfBoundsException {
        checkFolder(folder);
        Version shown = receiver.shown(folder);
        if (k < 0 || k >= shown.files()) {
            throw new IndexOutOfBoundsException("no such file");
        }
        int size = data ? shown.fileSize(k) : shown.nameSize(k);
        if (i < -1 || i >= size) {
            throw new IndexOutOfBoundsException("no such byte");
        }
        if (i == -1) {
            return size;
        }
        return data ? shown.item(k + 1).at(i) : shown.item(0).at(shown.namePlace(k) + i);
    }

    public long journal(int k, int what) throws IllegalArgumentException, IndexOutOfBoundsException {
        if (what < 0 || what > Journal.NUMBERS) {
            throw new IllegalArgumentException("no such number of an entry");
        }
        if (k == -1) {
            return journal.entries();
        }
        if (!journal.keeps(k)) {
            throw new IndexOutOfBoundsException("no such entry, or not kept");
        }
        return what == Journal.NUMBERS ? journal.link(k) : journal.number(k, what);
    }

    public void touch(int k, int what, int bits) throws IllegalArgumentException, IndexOutOfBoundsException {
        if (what < 0 || what >= Journal.NUMBERS) {
            throw new IllegalArgumentException("no such number of an entry");
        }
        if (!journal.keeps(k)) {
            throw new IndexOutOfBoundsException("no such entry, or not kept");
        }
        journal.turn(k, what, bits);
    }

    public boolean isSound() {
        return journal.linksHold();
    }

    public int count(int what) throws IllegalArgumentException {
        switch (what) {
            case 0:
                return receiver.dropped();
            case 1:
                return receiver.allRows();
            case 2:
                return packetsSent;
            default:
                throw new IllegalArgumentException("no such count");
        }
    }

    private static boolean isFolder(int folder) {
        return folder >= 0 && folder < FOLDERS;
    }

    private static void checkFolder(int folder) {
        if (!isFolder(folder)) {
            throw new IllegalArgumentException("no such folder");
        }
    }

    private static void checkVersion(int folder, int version) {
        if (!isFolder(folder) || version < 1 || version > NUMBER_LIMIT) {
            throw new IllegalArgumentException("no such folder or version");
        }
    }

    private void checkSlot(int slot) {
        if (slot < 0 || slot >= SLOTS || slots[slot].size() == 0) {
            throw new IllegalArgumentException("no such slot, or it has nothing");
        }
    }

    /** A row of bytes (0 .. 255) with a limit, made once and filled again and again. */
    private static final class Bytes {
        private static final long HASH_START = -3750763034362895579L;
        private static final long HASH_FACTOR = 1099511628211L;
        private static final int FIRST_SIGN = 33;
        private static final int LAST_SIGN = 126;

        private final int[] row;
        private int size = 0;

        Bytes(int limit) {
            row = new int[limit];
        }

        int size() {
            return size;
        }

        int limit() {
            return row.length;
        }

        void clear() {
            size = 0;
        }

        void resize(int wanted) {
            size = Math.max(0, Math.min(wanted, row.length));
        }

        /** Zero behind the end: so the last piece of a block is filled up by itself. */
        int at(int i) {
            return i >= 0 && i < size ? row[i] : 0;
        }

        /** What would go behind the end is left out: a last piece may be longer than its item. */
        void put(int i, int value) {
            if (i >= 0 && i < size) {
                row[i] = value & 255;
            }
        }

        void turn(int i, int bits) {
            put(i, at(i) ^ bits);
        }

        /** The n bytes from place i as a number, the highest byte first. */
        long number(int i, int n) {
            long value = 0;
            for (int k = 0; k < n; k++) {
                value = value << 8 | at(i + k);
            }
            return value;
        }

        void putNumber(int i, long value, int n) {
            for (int k = 0; k < n; k++) {
                put(i + k, (int) (value >>> 8 * (n - 1 - k)));
            }
        }

        void append(long value, int n) {
            for (int k = 0; k < n && size < row.length; k++) {
                row[size] = (int) (value >>> 8 * (n - 1 - k)) & 255;
                size++;
            }
        }

        void appendAll(Bytes other) {
            for (int i = 0; i < other.size; i++) {
                append(other.at(i), 1);
            }
        }

        void copyFrom(Bytes other) {
            resize(other.size);
            System.arraycopy(other.row, 0, row, 0, size);
        }

        long hash(int n) {
            long h = HASH_START;
            for (int i = 0; i < n; i++) {
                h = (h ^ at(i)) * HASH_FACTOR;
            }
            return h;
        }

        boolean isName(int from, int length) {
            if (length < 1 || length > NAME_LIMIT) {
                return false;
            }
            for (int i = from; i < from + length; i++) {
                if (at(i) < FIRST_SIGN || at(i) > LAST_SIGN) {
                    return false;
                }
            }
            return true;
        }

        /** Below zero when the part of this row comes before the other row's part, zero when alike. */
        int compareParts(int from, int length, Bytes other, int otherFrom, int otherLength) {
            int both = Math.min(length, otherLength);
            for (int i = 0; i < both; i++) {
                int difference = at(from + i) - other.at(otherFrom + i);
                if (difference != 0) {
                    return difference;
                }
            }
            return length - otherLength;
        }

        int compareAll(Bytes other) {
            return compareParts(0, size, other, 0, other.size);
        }
    }

    /** How items are cut and summed: what sender and receiver must agree on. */
    private static final class Cut {
        static int blocks(int size) {
            return Math.max(1, (size + BLOCK_SIZE - 1) / BLOCK_SIZE);
        }

        static int pieces(int size, int block) {
            int bytes = Math.min(BLOCK_SIZE, size - block * BLOCK_SIZE);
            return Math.max(1, (bytes + PIECE_SIZE - 1) / PIECE_SIZE);
        }

        static int packets(int size, int block) {
            return 2 * pieces(size, block);
        }

        /** Which pieces packet j of a block with n pieces is the sum of. */
        static int mask(int version, int item, int block, int j, int n) {
            if (j < n) {
                return 1 << j;
            }
            int all = (1 << n) - 1;
            int x = 40503 * (j + 1) * (j + 7) + 9973 * (block + 1) + 977 * item + 31 * version;
            int mask = x >>> 8 & all;
            return mask == 0 ? all : mask;
        }
    }

    /** A folder of the sender: its files by names, and the versions that are kept. */
    private static final class Folder {
        private static final int KEPT = 3;
        private static final int LAST_NUMBER = 1000;

        private final Bytes[] names = new Bytes[FILES];
        private final Bytes[] contents = new Bytes[FILES];
        private final Edition[] editions = new Edition[KEPT];
        private int files = 0;
        private int latest = 0;

        Folder() {
            for (int k = 0; k < FILES; k++) {
                names[k] = new Bytes(NAME_LIMIT);
                contents[k] = new Bytes(DATA_LIMIT);
            }
            for (int k = 0; k < KEPT; k++) {
                editions[k] = new Edition();
            }
        }

        int files() {
            return files;
        }

        Bytes name(int k) {
            return names[k];
        }

        Bytes content(int k) {
            return contents[k];
        }

        /** How many files there are then; 0 when there is no place for one more. */
        int put(Bytes name, Bytes content) {
            int k = placeOf(name);
            if (!isAt(k, name)) {
                if (files == FILES) {
                    return 0;
                }
                moveFile(files, k);
                files++;
                names[k].copyFrom(name);
            }
            contents[k].copyFrom(content);
            return files;
        }

        boolean takeOut(Bytes name) {
            int k = placeOf(name);
            if (!isAt(k, name)) {
                return false;
            }
            moveFile(k, files - 1);
            files--;
            return true;
        }

        /** The number of the new version; 0 when there can be no more. */
        int makeVersion() {
            if (latest >= LAST_NUMBER) {
                return 0;
            }
            latest++;
            editions[latest % KEPT].record(latest, this);
            return latest;
        }

        /** The version that is so many commits old, or null when it is not there. */
        Edition edition(int age) {
            return latest - age >= 1 && age >= 0 && age < KEPT ? editions[(latest - age) % KEPT] : null;
        }

        /** The place of the first file that does not come before the name. */
        private int placeOf(Bytes name) {
            int k = 0;
            while (k < files && names[k].compareAll(name) < 0) {
                k++;
            }
            return k;
        }

        private boolean isAt(int k, Bytes name) {
            return k < files && names[k].compareAll(name) == 0;
        }

        /** Moves one place's rows to another one, those between going up or down: none is made anew. */
        private void moveFile(int from, int to) {
            Bytes name = names[from];
            Bytes content = contents[from];
            for (int k = from; k < to; k++) {
                names[k] = names[k + 1];
                contents[k] = contents[k + 1];
            }
            for (int k = from; k > to; k--) {
                names[k] = names[k - 1];
                contents[k] = contents[k - 1];
            }
            names[to] = name;
            contents[to] = content;
        }
    }

    /** A version at the sender: item 0 is its manifest, the others are its files. */
    private static final class Edition {
        private final Bytes[] items = new Bytes[ITEMS];
        private int number = 0;
        private int itemCount = 0;

        Edition() {
            for (int item = 0; item < ITEMS; item++) {
                items[item] = new Bytes(ITEM_LIMIT);
            }
        }

        void record(int newNumber, Folder folder) {
            number = newNumber;
            itemCount = folder.files() + 1;
            Bytes manifest = items[0];
            manifest.clear();
            manifest.append(number, 2);
            manifest.append(folder.files(), 1);
            for (int k = 0; k < folder.files(); k++) {
                Bytes content = items[k + 1];
                content.copyFrom(folder.content(k));
                manifest.append(folder.name(k).size(), 1);
                manifest.appendAll(folder.name(k));
                manifest.append(content.size(), 1);
                manifest.append(content.hash(content.size()), HASH_SIZE);
            }
        }

        int packets() {
            int sum = 0;
            for (int item = 0; item < itemCount; item++) {
                int size = items[item].size();
                for (int block = 0; block < Cut.blocks(size); block++) {
                    sum += Cut.packets(size, block);
                }
            }
            return sum;
        }

        /** Fills a slot with the packet at a place among all of this version. */
        void fillPacket(Bytes slot, int place, int life, int folder) {
            int left = place;
            for (int item = 0; item < itemCount; item++) {
                int size = items[item].size();
                for (int block = 0; block < Cut.blocks(size); block++) {
                    int here = Cut.packets(size, block);
                    if (left < here) {
                        slot.clear();
                        slot.append(life, 1);
                        slot.append(folder, 1);
                        slot.append(number, 2);
                        appendPlace(slot, item, block, left);
                        slot.append(sum(item, block, left), PIECE_SIZE);
                        slot.append(slot.hash(HASHED_SIZE), HASH_SIZE);
                        return;
                    }
                    left -= here;
                }
            }
        }

        private void appendPlace(Bytes slot, int item, int block, int j) {
            slot.append(item, 1);
            slot.append(block, 1);
            slot.append(j, 1);
            slot.append(items[item].size(), 1);
        }

        private long sum(int item, int block, int j) {
            int n = Cut.pieces(items[item].size(), block);
            int mask = Cut.mask(number, item, block, j, n);
            long sum = 0;
            for (int k = 0; k < n; k++) {
                if ((mask >> k & 1) == 1) {
                    sum ^= items[item].number(block * BLOCK_SIZE + k * PIECE_SIZE, PIECE_SIZE);
                }
            }
            return sum;
        }
    }

    /** Two folders, and which packet comes next. */
    private static final class Sender {
        private static final int NEW = 0;
        private static final int OLD = 1;
        private static final int LAST_LIFE = 255;
        private static final int TURNS = 4;
        private static final int OLD_TURN = 3;

        private final Folder[] folders = new Folder[FOLDERS];
        private final int[] nextPlaces = new int[2];
        private int life = 1;
        private int turn = 0;

        Sender() {
            for (int folder = 0; folder < FOLDERS; folder++) {
                folders[folder] = new Folder();
            }
        }

        Folder folder(int folder) {
            return folders[folder];
        }

        int life() {
            return life;
        }

        boolean beginLife() {
            if (life >= LAST_LIFE) {
                return false;
            }
            life++;
            beginRounds();
            return true;
        }

        int makeVersion(int folder) {
            int number = folders[folder].makeVersion();
            if (number != 0) {
                beginRounds();
            }
            return number;
        }

        /** Fills a slot with the next packet; false when there is no version at all. */
        boolean fillNext(Bytes slot) {
            int sort = turn == OLD_TURN && packetsOf(OLD) > 0 ? OLD : NEW;
            int all = packetsOf(sort);
            if (all == 0) {
                return false;
            }
            fillFrom(slot, sort, nextPlaces[sort]);
            nextPlaces[sort] = (nextPlaces[sort] + 1) % all;
            turn = (turn + 1) % TURNS;
            return true;
        }

        private void beginRounds() {
            turn = 0;
            nextPlaces[NEW] = 0;
            nextPlaces[OLD] = 0;
        }

        private static int oldestAge(int sort) {
            return sort == OLD ? Folder.KEPT - 1 : 0;
        }

        private static int youngestAge(int sort) {
            return sort == OLD ? 1 : 0;
        }

        private int packetsOf(int sort) {
            int sum = 0;
            for (int folder = 0; folder < FOLDERS; folder++) {
                for (int age = oldestAge(sort); age >= youngestAge(sort); age--) {
                    Edition edition = folders[folder].edition(age);
                    sum += edition == null ? 0 : edition.packets();
                }
            }
            return sum;
        }

        private void fillFrom(Bytes slot, int sort, int place) {
            int left = place;
            for (int folder = 0; folder < FOLDERS; folder++) {
                for (int age = oldestAge(sort); age >= youngestAge(sort); age--) {
                    Edition edition = folders[folder].edition(age);
                    int here = edition == null ? 0 : edition.packets();
                    if (edition != null && left < here) {
                        edition.fillPacket(slot, left, life, folder);
                        return;
                    }
                    left -= here;
                }
            }
        }
    }

    /** A version at the receiver: what is solved of it, and what became of it. */
    private static final class Version {
        private static final int MANIFEST_HEAD = 3;

        private final Bytes[] items = new Bytes[ITEMS];
        private final boolean[] solved = new boolean[ITEMS * ITEM_BLOCKS];
        private final boolean[] held = new boolean[ITEMS];
        private final int[] nameAt = new int[FILES];
        private final int[] nameSizes = new int[FILES];
        private final int[] fileSizes = new int[FILES];
        private final long[] fileHashes = new long[FILES];
        private int number = 0;
        private int state = 0;
        private int files = 0;
        private boolean good = false;

        Version() {
            for (int item = 0; item < ITEMS; item++) {
                items[item] = new Bytes(ITEM_LIMIT);
            }
        }

        int number() {
            return number;
        }

        int state() {
            return state;
        }

        void become(int newState) {
            state = newState;
        }

        int files() {
            return files;
        }

        boolean isGood() {
            return good;
        }

        boolean holds(int item) {
            return held[item];
        }

        Bytes item(int item) {
            return items[item];
        }

        void begin(int newNumber) {
            number = newNumber;
            state = PARTLY;
            for (int item = 0; item < ITEMS; item++) {
                clearItem(item);
            }
        }

        void clearItem(int item) {
            items[item].clear();
            held[item] = false;
            for (int block = 0; block < ITEM_BLOCKS; block++) {
                solved[item * ITEM_BLOCKS + block] = false;
            }
            if (item == 0) {
                good = false;
                files = 0;
            }
        }

        boolean isSolved(int item, int block) {
            return solved[item * ITEM_BLOCKS + block];
        }

        boolean hasSolved(int item) {
            return isSolved(item, 0) || isSolved(item, 1);
        }

        void solve(int item, int block) {
            solved[item * ITEM_BLOCKS + block] = true;
        }

        boolean isComplete(int item) {
            return isSolved(item, 0) && (isSolved(item, 1) || Cut.blocks(items[item].size()) == 1);
        }

        boolean isWhole() {
            for (int item = 1; item <= files; item++) {
                if (!held[item]) {
                    return false;
                }
            }
            return good;
        }

        int nameSize(int k) {
            return nameSizes[k];
        }

        /** Where a name begins in item 0. */
        int namePlace(int k) {
            return nameAt[k];
        }

        int fileSize(int k) {
            return fileSizes[k];
        }

        /** Reads item 0, which is complete: whether it can be a manifest of this version. */
        boolean readManifest() {
            Bytes manifest = items[0];
            int listed = manifest.at(2);
            if (manifest.number(0, 2) != number || listed > FILES) {
                return false;
            }
            int place = MANIFEST_HEAD;
            for (int k = 0; k < listed; k++) {
                nameAt[k] = place + 1;
                nameSizes[k] = manifest.at(place);
                place += 1 + nameSizes[k];
                fileSizes[k] = manifest.at(place);
                fileHashes[k] = manifest.number(place + 1, HASH_SIZE);
                place += 1 + HASH_SIZE;
                if (!manifest.isName(nameAt[k], nameSizes[k]) || fileSizes[k] > DATA_LIMIT || !isBehindLast(k)) {
                    return false;
                }
            }
            if (place != manifest.size()) {
                return false;
            }
            files = listed;
            good = true;
            return true;
        }

        private boolean isBehindLast(int k) {
            return k == 0
                || items[0].compareParts(nameAt[k - 1], nameSizes[k - 1], items[0], nameAt[k], nameSizes[k]) < 0;
        }

        /** Holds an item that is complete, if it is the file that the good manifest tells of. */
        boolean holdIfRight(int item) {
            if (item < 1 || item > files) {
                return false;
            }
            Bytes bytes = items[item];
            held[item] = bytes.size() == fileSizes[item - 1] && bytes.hash(bytes.size()) == fileHashes[item - 1];
            return held[item];
        }

        /** The item that this version holds of the same size and hash as another one's; 0 for none. */
        int heldLike(Version other, int otherItem) {
            for (int item = 1; item <= files; item++) {
                if (held[item] && fileSizes[item - 1] == other.fileSizes[otherItem - 1]
                        && fileHashes[item - 1] == other.fileHashes[otherItem - 1]) {
                    return item;
                }
            }
            return 0;
        }

        void holdCopy(int item, Bytes bytes) {
            items[item].copyFrom(bytes);
            held[item] = true;
            for (int block = 0; block < ITEM_BLOCKS; block++) {
                solved[item * ITEM_BLOCKS + block] = block < Cut.blocks(bytes.size());
            }
        }

        /** Takes over what can be read of a version that is whole. */
        void showFrom(Version other) {
            number = other.number;
            files = other.files;
            for (int item = 0; item <= files; item++) {
                items[item].copyFrom(other.items[item]);
            }
            System.arraycopy(other.nameAt, 0, nameAt, 0, FILES);
            System.arraycopy(other.nameSizes, 0, nameSizes, 0, FILES);
            System.arraycopy(other.fileSizes, 0, fileSizes, 0, FILES);
        }
    }

    /**
     * The rows of all unsolved blocks, held in one table since there are few in all. A block's key
     * rises by version, then folder, so the least key is of the version that must go first. The rows
     * of a block are solved for each other as they come: each one's lowest bit is in no other one.
     */
    private static final class Rows {
        private static final int LIMIT = 24;
        private static final int OWNER_SHIFT = 4;

        private final int[] keys = new int[LIMIT];
        private final int[] masks = new int[LIMIT];
        private final long[] values = new long[LIMIT];
        private int used = 0;

        static int owner(int folder, int version) {
            return version << 1 | folder;
        }

        static int firstKey(int owner) {
            return owner << OWNER_SHIFT;
        }

        static int lastKey(int owner) {
            return (owner + 1 << OWNER_SHIFT) - 1;
        }

        static int key(int owner, int item, int block) {
            return (owner << OWNER_SHIFT) + item * ITEM_BLOCKS + block;
        }

        int used() {
            return used;
        }

        boolean isFull() {
            return used >= LIMIT;
        }

        int ownerAt(int i) {
            return i >= 0 && i < used ? keys[i] >> OWNER_SHIFT : 0;
        }

        int rowsIn(int first, int last) {
            int rows = 0;
            for (int i = 0; i < used; i++) {
                if (keys[i] >= first && keys[i] <= last) {
                    rows++;
                }
            }
            return rows;
        }

        void drop(int first, int last) {
            int left = 0;
            for (int i = 0; i < used; i++) {
                if (keys[i] < first || keys[i] > last) {
                    keys[left] = keys[i];
                    masks[left] = masks[i];
                    values[left] = values[i];
                    left++;
                }
            }
            used = left;
        }

        void dropAll() {
            used = 0;
        }

        /** Whether the mask is a sum of masks that the block has. */
        boolean tells(int key, int mask) {
            int left = mask;
            for (int i = 0; i < used; i++) {
                if (hasPivotIn(i, key, left)) {
                    left ^= masks[i];
                }
            }
            return left == 0;
        }

        void add(int key, int mask, long value) {
            if (isFull()) {
                return;
            }
            int newMask = mask;
            long newValue = value;
            for (int i = 0; i < used; i++) {
                if (hasPivotIn(i, key, newMask)) {
                    newMask ^= masks[i];
                    newValue ^= values[i];
                }
            }
            int pivot = newMask & -newMask;
            for (int i = 0; i < used; i++) {
                if (keys[i] == key && (masks[i] & pivot) != 0) {
                    masks[i] ^= newMask;
                    values[i] ^= newValue;
                }
            }
            keys[used] = key;
            masks[used] = newMask;
            values[used] = newValue;
            used++;
        }

        /** Piece k of a block that has as many rows as pieces: each row then is one piece. */
        long piece(int key, int k) {
            for (int i = 0; i < used; i++) {
                if (keys[i] == key && masks[i] == 1 << k) {
                    return values[i];
                }
            }
            return 0;
        }

        private boolean hasPivotIn(int i, int key, int mask) {
            return keys[i] == key && (masks[i] & -masks[i] & mask) != 0;
        }
    }

    /** What is known of both folders, and what becomes of a packet that is heard. */
    private static final class Receiver {
        private static final int KNOWN = 4;

        private final Version[] known = new Version[FOLDERS * KNOWN];
        private final Version[] shown = new Version[FOLDERS];
        private final Rows rows = new Rows();
        private final Rules rules;
        private final Journal journal;
        private int greatestLife = 0;
        private int dropped = 0;

        Receiver(Rules rules, Journal journal) {
            this.rules = rules;
            this.journal = journal;
            for (int i = 0; i < FOLDERS * KNOWN; i++) {
                known[i] = new Version();
            }
            for (int folder = 0; folder < FOLDERS; folder++) {
                shown[folder] = new Version();
            }
        }

        Version shown(int folder) {
            return shown[folder];
        }

        int dropped() {
            return dropped;
        }

        int allRows() {
            return rows.used();
        }

        void loseRows() {
            rows.dropAll();
        }

        int listen(Bytes packet) {
            int why = whyDropped(packet);
            if (why != 0) {
                dropped++;
                return why;
            }
            int folder = packet.at(AT_FOLDER);
            Version version = find(folder, (int) packet.number(AT_VERSION, 2));
            int item = packet.at(AT_ITEM);
            if (version != null && keepRow(version, folder, packet) && version.isComplete(item)) {
                lookAt(version, folder, item);
                holdAlike(folder);
                for (int i = 0; i < KNOWN; i++) {
                    judge(leastToJudge(folder), folder);
                }
            }
            return 0;
        }

        int stateOf(int folder, int number) {
            if (shown[folder].number() == number) {
                return RELEASED;
            }
            Version version = find(folder, number);
            return version == null ? 0 : version.state();
        }

        int rowsOf(int folder, int number, int item, int block) {
            Version version = find(folder, number);
            if (version == null) {
                return 0;
            }
            if (version.isSolved(item, block)) {
                return 8;
            }
            int key = Rows.key(Rows.owner(folder, number), item, block);
            return rows.rowsIn(key, key);
        }

        /** Releases the greatest version that may go out: its number, 0 for none. */
        int letOut(int folder) {
            Version best = null;
            for (int i = 0; i < KNOWN; i++) {
                Version version = knownAt(folder, i);
                int least = best == null ? shown[folder].number() : best.number();
                if (version.state() == WHOLE && version.number() > least) {
                    best = version;
                }
            }
            if (best == null) {
                return 0;
            }
            best.become(RELEASED_BEFORE);
            shown[folder].showFrom(best);
            journal.enter(folder, best.number(), 0, 0);
            return best.number();
        }

        private Version knownAt(int folder, int i) {
            return known[folder * KNOWN + i];
        }

        private Version find(int folder, int number) {
            for (int i = 0; i < KNOWN; i++) {
                if (knownAt(folder, i).number() == number) {
                    return knownAt(folder, i);
                }
            }
            return null;
        }

        /** The least version known; a free place, of number 0, comes before all. */
        private Version leastOf(int folder) {
            Version least = knownAt(folder, 0);
            for (int i = 1; i < KNOWN; i++) {
                if (knownAt(folder, i).number() < least.number()) {
                    least = knownAt(folder, i);
                }
            }
            return least;
        }

        private int greatestOf(int folder) {
            int greatest = 0;
            for (int i = 0; i < KNOWN; i++) {
                greatest = Math.max(greatest, knownAt(folder, i).number());
            }
            return greatest;
        }

        private int whyDropped(Bytes packet) {
            if (packet.hash(HASHED_SIZE) != packet.number(HASHED_SIZE, HASH_SIZE)) {
                return 1;
            }
            noteLife(packet.at(AT_LIFE));
            if (packet.at(AT_LIFE) < greatestLife) {
                return 2;
            }
            if (!canBe(packet)) {
                return 3;
            }
            // From here on the version is heard, whatever becomes of the packet: the words tell so
            // of all that is not dropped as 1 to 3.
            int folder = packet.at(AT_FOLDER);
            int number = (int) packet.number(AT_VERSION, 2);
            Version version = learn(folder, number);
            int item = packet.at(AT_ITEM);
            int block = packet.at(AT_BLOCK);
            int owner = Rows.owner(folder, number);
            if (hasOtherSize(version, owner, packet) || version.isSolved(item, block)) {
                return 4;
            }
            if (rows.tells(Rows.key(owner, item, block), maskOf(packet))) {
                return 5;
            }
            return rows.isFull() && !makeRoom() ? 6 : 0;
        }

        private void noteLife(int life) {
            if (life > greatestLife) {
                greatestLife = life;
                rows.dropAll();
            }
        }

        private boolean canBe(Bytes packet) {
            int folder = packet.at(AT_FOLDER);
            int number = (int) packet.number(AT_VERSION, 2);
            int size = packet.at(AT_SIZE);
            int block = packet.at(AT_BLOCK);
            return folder < FOLDERS && number != 0 && packet.at(AT_ITEM) < ITEMS && size <= ITEM_LIMIT
                && block < Cut.blocks(size) && packet.at(AT_J) < Cut.packets(size, block)
                && number >= leastOf(folder).number();
        }

        /** The place of a version, which is found, or made in that of the least one. */
        private Version learn(int folder, int number) {
            Version found = find(folder, number);
            if (found != null) {
                return found;
            }
            Version place = leastOf(folder);
            int owner = Rows.owner(folder, place.number());
            rows.drop(Rows.firstKey(owner), Rows.lastKey(owner));
            place.begin(number);
            return place;
        }

        private boolean hasOtherSize(Version version, int owner, Bytes packet) {
            int item = packet.at(AT_ITEM);
            boolean hasAny = version.hasSolved(item)
                || rows.rowsIn(Rows.key(owner, item, 0), Rows.key(owner, item, 1)) > 0;
            return hasAny && version.item(item).size() != packet.at(AT_SIZE);
        }

        private static int piecesOf(Bytes packet) {
            return Cut.pieces(packet.at(AT_SIZE), packet.at(AT_BLOCK));
        }

        private static int maskOf(Bytes packet) {
            return Cut.mask((int) packet.number(AT_VERSION, 2), packet.at(AT_ITEM), packet.at(AT_BLOCK),
                packet.at(AT_J), piecesOf(packet));
        }

        private boolean makeRoom() {
            int least = -1;
            for (int i = 0; i < rows.used(); i++) {
                int owner = rows.ownerAt(i);
                boolean isGreatest = owner == Rows.owner(owner & 1, greatestOf(owner & 1));
                if (!isGreatest && (least < 0 || owner < least)) {
                    least = owner;
                }
            }
            if (least < 0) {
                return false;
            }
            rows.drop(Rows.firstKey(least), Rows.lastKey(least));
            return true;
        }

        /** Keeps a packet's row: whether its block is solved by it. */
        private boolean keepRow(Version version, int folder, Bytes packet) {
            int item = packet.at(AT_ITEM);
            int block = packet.at(AT_BLOCK);
            int key = Rows.key(Rows.owner(folder, version.number()), item, block);
            version.item(item).resize(packet.at(AT_SIZE));
            rows.add(key, maskOf(packet), packet.number(AT_BYTES, PIECE_SIZE));
            int n = piecesOf(packet);
            if (rows.rowsIn(key, key) < n) {
                return false;
            }
            for (int k = 0; k < n; k++) {
                version.item(item).putNumber(block * BLOCK_SIZE + k * PIECE_SIZE, rows.piece(key, k), PIECE_SIZE);
            }
            version.solve(item, block);
            rows.drop(key, key);
            return true;
        }

        /** Looks at an item that has just become complete. */
        private void lookAt(Version version, int folder, int item) {
            if (item != 0) {
                if (version.isGood()) {
                    lookAtFile(version, folder, item);
                }
                return;
            }
            if (!version.readManifest()) {
                forgetItem(version, folder, 0);
                return;
            }
            for (int other = 1; other < ITEMS; other++) {
                if (other > version.files() || version.isComplete(other)) {
                    lookAtFile(version, folder, other);
                }
            }
        }

        private void lookAtFile(Version version, int folder, int item) {
            if (!version.holdIfRight(item)) {
                forgetItem(version, folder, item);
            }
        }

        private void forgetItem(Version version, int folder, int item) {
            version.clearItem(item);
            dropItemRows(version, folder, item);
        }

        private void dropItemRows(Version version, int folder, int item) {
            int owner = Rows.owner(folder, version.number());
            rows.drop(Rows.key(owner, item, 0), Rows.key(owner, item, 1));
        }

        /**
         * Versions hold files for each other. A copy may be what a third one, or another file of the
         * first one, waits for: so it goes on until a round changes nothing.
         */
        private void holdAlike(int folder) {
            boolean changed = true;
            for (int round = 0; changed && round <= KNOWN * FILES; round++) {
                changed = false;
                for (int i = 0; i < KNOWN; i++) {
                    for (int item = 1; item <= knownAt(folder, i).files(); item++) {
                        changed |= holdByOther(folder, i, item);
                    }
                }
            }
        }

        private boolean holdByOther(int folder, int i, int item) {
            Version version = knownAt(folder, i);
            if (version.holds(item)) {
                return false;
            }
            for (int other = 0; other < KNOWN; other++) {
                Version holder = knownAt(folder, other);
                int source = other == i ? 0 : holder.heldLike(version, item);
                if (source != 0) {
                    dropItemRows(version, folder, item);
                    version.holdCopy(item, holder.item(source));
                    return true;
                }
            }
            return false;
        }

        /** The least version that is whole and not judged yet; null when there is none. */
        private Version leastToJudge(int folder) {
            Version least = null;
            for (int i = 0; i < KNOWN; i++) {
                Version version = knownAt(folder, i);
                boolean due = version.state() == PARTLY && version.isWhole();
                if (due && (least == null || version.number() < least.number())) {
                    least = version;
                }
            }
            return least;
        }

        private void judge(Version version, int folder) {
            if (version == null) {
                return;
            }
            for (int kind = 0; kind < Rules.KINDS; kind++) {
                int item = rules.brokenBy(kind, version);
                if (item != Rules.NOT_BROKEN) {
                    version.become(REJECTED);
                    journal.enter(folder, version.number(), 1 + kind, item);
                    return;
                }
            }
            version.become(WHOLE);
        }
    }

    /** What a whole version may not have. */
    private static final class Rules {
        private static final int KINDS = 4;
        private static final int NOT_BROKEN = -1;
        private static final int VALUES = 256;

        private final boolean[] signs = new boolean[VALUES];
        private final boolean[] firsts = new boolean[VALUES];
        private int mostBytes = DATA_LIMIT;
        private int mostFiles = FILES;

        /** Below zero for a kind that there is not. */
        static int greatestValue(int kind) {
            switch (kind) {
                case 0:
                    return DATA_LIMIT;
                case 1:
                    return FILES;
                case 2:
                case 3:
                    return VALUES - 1;
                default:
                    return -1;
            }
        }

        void set(int kind, int value, boolean on) {
            switch (kind) {
                case 0:
                    mostBytes = on ? value : DATA_LIMIT;
                    break;
                case 1:
                    mostFiles = on ? value : FILES;
                    break;
                case 2:
                    signs[value & VALUES - 1] = on;
                    break;
                default:
                    firsts[value & VALUES - 1] = on;
                    break;
            }
        }

        /** The item of the first file that breaks the rule, 0 when it is no single file's fault. */
        int brokenBy(int kind, Version version) {
            if (kind == 1) {
                return version.files() > mostFiles ? 0 : NOT_BROKEN;
            }
            for (int k = 0; k < version.files(); k++) {
                if (isBrokenByFile(kind, version, k)) {
                    return k + 1;
                }
            }
            return NOT_BROKEN;
        }

        private boolean isBrokenByFile(int kind, Version version, int k) {
            switch (kind) {
                case 0:
                    return version.fileSize(k) > mostBytes;
                case 2:
                    return hasBadSign(version, k);
                default:
                    return version.fileSize(k) > 0 && firsts[version.item(k + 1).at(0) & VALUES - 1];
            }
        }

        private boolean hasBadSign(Version version, int k) {
            Bytes manifest = version.item(0);
            int end = version.namePlace(k) + version.nameSize(k);
            for (int i = version.namePlace(k); i < end; i++) {
                if (signs[manifest.at(i) & VALUES - 1]) {
                    return true;
                }
            }
            return false;
        }
    }

    /** The latest entries, each with a link that hangs on all before it. */
    private static final class Journal {
        private static final int NUMBERS = 4;
        private static final int KEPT = 30;
        private static final int LINKED_SIZE = 13;

        private final int[] numbers = new int[KEPT * NUMBERS];
        private final long[] links = new long[KEPT];
        private final Bytes linked = new Bytes(LINKED_SIZE);
        private int entries = 0;
        private long linkBeforeKept = 0;
        private long latestLink = 0;

        int entries() {
            return entries;
        }

        boolean keeps(int k) {
            return k >= firstKept() && k < entries;
        }

        int number(int k, int what) {
            return numbers[place(k, what)];
        }

        long link(int k) {
            return links[k % KEPT];
        }

        void turn(int k, int what, int bits) {
            numbers[place(k, what)] ^= bits & 255;
        }

        void enter(int folder, int version, int reason, int item) {
            if (entries >= KEPT) {
                linkBeforeKept = link(entries);
            }
            numbers[place(entries, 0)] = folder;
            numbers[place(entries, 1)] = version;
            numbers[place(entries, 2)] = reason;
            numbers[place(entries, 3)] = item;
            latestLink = dueLink(latestLink, entries);
            links[entries % KEPT] = latestLink;
            entries++;
        }

        boolean linksHold() {
            long before = linkBeforeKept;
            for (int k = firstKept(); k < entries; k++) {
                if (link(k) != dueLink(before, k)) {
                    return false;
                }
                before = link(k);
            }
            return true;
        }

        private int firstKept() {
            return Math.max(0, entries - KEPT);
        }

        private static int place(int k, int what) {
            return k % KEPT * NUMBERS + what;
        }

        private long dueLink(long before, int k) {
            linked.clear();
            linked.append(before, HASH_SIZE);
            linked.append(number(k, 0), 1);
            linked.append(number(k, 1), 2);
            linked.append(number(k, 2), 1);
            linked.append(number(k, 3), 1);
            return linked.hash(LINKED_SIZE);
        }
    }
}
