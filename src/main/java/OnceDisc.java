/**
 * A disc on which each block can be written once. The document is ../shared/DOC.md; the answers of
 * the public methods are promised there, by the numbers that stand ahead of them here.
 */
public final class OnceDisc {
    public static final int NONE = -1;

    private static final int MAX_TEXT = 600;
    private static final int APPENDED_BYTES = 20;
    private static final int MAX_LETTERS = 8;
    private static final int MAX_DIGITS = 3;
    private static final int MIN_BLOCKS = 8;
    private static final int MAX_BLOCKS = 96;
    private static final int MAX_SPARE = 16;
    private static final int MAX_FILES = 10;
    private static final int MAX_SESSIONS = 12;
    private static final int MAX_LENGTH = 8;
    private static final int MAX_TAG = 999;
    private static final int ENTRIES_IN_BLOCK = 4;
    private static final int UNDO_DEPTH = 10;
    private static final int SLOTS = 2;
    // Stands for an entry that a session has not. (NONE is the version of an entry that tells of an erased file.)
    private static final int ABSENT = -2;

    private static final int EMPTY = 0;
    private static final int DATA = 1;
    private static final int DIRECTORY = 2;
    private static final int FAILED = 3;

    private static final int OPEN = 0;
    private static final int CLOSED = 1;
    private static final int LOST = 2;
    private static final int RECOVERED = 3;

    private static final int USE_EMPTY = 0;
    private static final int USE_COUNTS = 1;
    private static final int USE_HIDDEN = 2;
    private static final int USE_DIRECTORY = 3;
    private static final int USE_FAILED = 4;

    private static final int ALLOWED = 0;
    private static final int NOT_OPEN = 1;
    private static final int NOTHING_TO_DO = 2;
    private static final int TOO_MANY_SESSIONS = 3;
    private static final int NO_ROOM = 4;
    private static final int NO_SPARE = 5;

    private static final int BAD_TOKEN = 1;
    private static final int KNOWN_ALREADY = 2;
    private static final int OUT_OF_RANGE = 3;
    private static final int UNKNOWN_FILE = 4;
    private static final int TOO_MANY_FILES = 5;
    private static final int REFUSED = 6;

    private static final int END_TOKEN = 0;
    private static final int WORD_TOKEN = 1;
    private static final int NUMBER_TOKEN = 2;
    private static final int SEMICOLON_TOKEN = 3;
    private static final int INVALID_TOKEN = 4;

    private static final int BAD_STATEMENT = 0;
    private static final int WRITE_STATEMENT = 1;
    private static final int ERASE_STATEMENT = 2;
    private static final int CLOSE_STATEMENT = 3;
    // The shortest statement has 5 bytes: "bad7;".
    private static final int MAX_STATEMENTS = MAX_TEXT / 5;

    private final Input input = new Input();
    private final Text text = new Text();
    private final History history = new History();
    private final Snapshots snapshots = new Snapshots();
    private final View afterScratch = new View();
    private Disc disc = new Disc();
    // What parse builds; it changes places with disc when the text has no error.
    private Disc draft = new Disc();

    /** Promise 1. */
    public OnceDisc() {
        disc.format(MIN_BLOCKS, 0);
    }

    // ---- text

    /** Promise 2. */
    public int append(int a, int b, int c, int d, int e) {
        if (!input.hasRoom(APPENDED_BYTES)) {
            return NONE;
        }
        input.addBytes(a);
        input.addBytes(b);
        input.addBytes(c);
        input.addBytes(d);
        input.addBytes(e);
        return input.used;
    }

    /** Promise 3. */
    public int parse(int length) throws IllegalArgumentException {
        checkRange(length, 0, input.used);
        text.read(input, length);
        input.used = 0;
        draft.begin(text);
        for (int n = 0; n < text.count; n++) {
            if (draft.reasonAgainstStatement(text, n) != ALLOWED) {
                text.refuseStatement(n);
                break;
            }
            draft.doStatement(text, n);
        }
        if (text.code == 0) {
            Disc old = disc;
            disc = draft;
            draft = old;
            history.clear();
            snapshots.clear();
        }
        return text.code;
    }

    /** Promise 4. */
    public int errorPosition() {
        return text.position;
    }

    /** Promise 5. */
    public int size(int what) throws IllegalArgumentException {
        checkRange(what, 0, 12);
        switch (what) {
            case 0: return disc.blocks.count;
            case 1: return disc.blocks.count - disc.blocks.main;
            case 2: return disc.fileCount;
            case 3: return disc.sessions.count;
            case 4: return disc.blocks.next;
            case 5: return disc.blocks.emptySpares();
            case 6: return disc.blocks.badOnes();
            case 7: return disc.view.lookAt(disc).filesThere();
            case 8: return disc.view.lookAt(disc).filesReadable();
            case 9: return oneIf(disc.sessions.isOpen());
            case 10: return oneIf(disc.scan);
            case 11: return history.count;
            default: return disc.versions.count;
        }
    }

    /** Promise 6. */
    public int find() {
        long name = input.nameAlone();
        input.used = 0;
        return name == NONE ? NONE : disc.fileNamed(name);
    }

    // ---- blocks, sessions, files

    /** Promise 7. */
    public int block(int block, int what) throws IndexOutOfBoundsException, IllegalArgumentException {
        checkIndex(block, disc.blocks.count);
        checkRange(what, 0, 6);
        return disc.blocks.property(block, what);
    }

    /** Promise 8. */
    public int place(int block) throws IndexOutOfBoundsException {
        checkIndex(block, disc.blocks.count);
        return disc.blocks.placeOf(block);
    }

    /** Promise 9. */
    public int session(int session, int what) throws IndexOutOfBoundsException, IllegalArgumentException {
        checkIndex(session, disc.sessions.count);
        checkRange(what, 0, 8);
        Sessions sessions = disc.sessions;
        switch (what) {
            case 0: return sessions.stateOf(session);
            case 1: return sessions.firstOf(session);
            case 2: return disc.blocks.mainBlocksOf(session);
            case 3: return sessions.entriesOf(session);
            case 4: return sessions.directoryOf(session);
            case 5:
                return oneIf(disc.blocks.canRead(sessions.directoryOf(session), sessions.directoryLengthOf(session)));
            case 6: return sessions.linkOf(session);
            case 7: return oneIf(disc.view.lookAt(disc).isReached(session));
            default: return disc.blocks.spareBlocksOf(session);
        }
    }

    /** Promise 10. */
    public int entry(int session, int k, int part) throws IndexOutOfBoundsException, IllegalArgumentException {
        checkIndex(session, disc.sessions.count);
        checkRange(part, 0, 4);
        int file = disc.sessions.fileAt(session, k);
        if (file == NONE) {
            return NONE;
        }
        int version = disc.sessions.versionFor(session, file);
        switch (part) {
            case 0: return file;
            case 1: return version;
            case 2: return disc.versions.firstOf(version);
            case 3: return disc.versions.lengthOf(version);
            default: return disc.versions.tagOf(version);
        }
    }

    /** Promise 11. */
    public int file(int file, int what) throws IndexOutOfBoundsException, IllegalArgumentException {
        checkIndex(file, disc.fileCount);
        checkRange(what, 0, 6);
        View view = disc.view.lookAt(disc);
        int version = view.versionOf(file);
        switch (what) {
            case 0: return oneIf(version != NONE);
            case 1: return oneIf(view.isReadable(file));
            case 2: return version;
            case 3: return disc.versions.lengthOf(version);
            case 4: return disc.versions.tagOf(version);
            case 5: return view.sessionOf(file);
            default: return disc.versions.countOf(file);
        }
    }

    /** Promise 12. */
    public int where(int file, int k) throws IndexOutOfBoundsException {
        checkIndex(file, disc.fileCount);
        int version = disc.view.lookAt(disc).versionOf(file);
        if (k < 0 || k >= disc.versions.lengthOf(version)) {
            return NONE;
        }
        return disc.blocks.placeOf(disc.versions.firstOf(version) + k);
    }

    /** Promise 13. */
    public int defect(int k, boolean spare) {
        int relocated = disc.relocatedBlock(k);
        if (relocated == NONE || !spare) {
            return relocated;
        }
        return disc.blocks.placeOf(relocated);
    }

    // ---- what would be; nothing changes

    /** Promise 14. */
    public int whyNotWrite(int file, int length) throws IndexOutOfBoundsException, IllegalArgumentException {
        checkIndex(file, disc.fileCount);
        checkRange(length, 1, MAX_LENGTH);
        return disc.reasonAgainstWrite(file, length);
    }

    /** Promise 15. */
    public int whyNot(int what) throws IllegalArgumentException {
        checkRange(what, 0, 2);
        switch (what) {
            case 0: return disc.reasonAgainstClose();
            case 1: return disc.reasonAgainstCrash();
            default: return disc.reasonAgainstRecover();
        }
    }

    /** Promise 16. */
    public int couldRecover() {
        return disc.recoverableVersions();
    }

    /** Promise 17. */
    public int risk(int block) throws IndexOutOfBoundsException {
        checkIndex(block, disc.blocks.count);
        return disc.filesLostBy(block, disc.view.lookAt(disc), afterScratch);
    }

    /** Promise 18. */
    public int weakest() {
        View now = disc.view.lookAt(disc);
        int found = 0;
        int greatest = 0;
        for (int block = 0; block < disc.blocks.count; block++) {
            int lost = disc.filesLostBy(block, now, afterScratch);
            if (lost > greatest) {
                greatest = lost;
                found = block;
            }
        }
        return found;
    }

    /** Promise 19. */
    public int filesBefore(int session) throws IndexOutOfBoundsException {
        checkIndex(session, disc.sessions.count);
        return disc.view.lookAt(disc).filesThereBefore(disc.sessions, session);
    }

    // ---- space

    /** Promise 20. */
    public int space(int use) throws IllegalArgumentException {
        checkRange(use, USE_EMPTY, USE_FAILED);
        return disc.blocksUsed(NONE, use);
    }

    /** Promise 21. */
    public int spaceOf(int session, int use) throws IndexOutOfBoundsException, IllegalArgumentException {
        checkIndex(session, disc.sessions.count);
        checkRange(use, USE_COUNTS, USE_FAILED);
        return disc.blocksUsed(session, use);
    }

    /** Promise 22. */
    public double share() {
        int written = disc.blocks.count - disc.blocksUsed(NONE, USE_EMPTY);
        if (written <= 0) {
            return 1.0;
        }
        return (double) disc.blocksUsed(NONE, USE_COUNTS) / (double) written;
    }

    // ---- changes

    /** Promise 23. */
    public int write(int file, int length, int tag)
            throws IndexOutOfBoundsException, IllegalArgumentException, IllegalStateException {
        checkIndex(file, disc.fileCount);
        checkRange(length, 1, MAX_LENGTH);
        checkRange(tag, 0, MAX_TAG);
        checkAllowed(disc.reasonAgainstWrite(file, length));
        history.keep(disc);
        return disc.writeVersion(file, length, tag);
    }

    /** Promise 24. */
    public int erase(int file) throws IndexOutOfBoundsException, IllegalStateException {
        checkIndex(file, disc.fileCount);
        checkAllowed(disc.reasonAgainstErase(file));
        history.keep(disc);
        disc.eraseFile(file);
        return disc.view.lookAt(disc).filesThere();
    }

    /** Promise 25. */
    public int close() throws IllegalStateException {
        checkAllowed(disc.reasonAgainstClose());
        history.keep(disc);
        return disc.closeSession();
    }

    /** Promise 26. */
    public int crash() throws IllegalStateException {
        checkAllowed(disc.reasonAgainstCrash());
        history.keep(disc);
        return disc.loseSession();
    }

    /** Promise 27. */
    public int recover() throws IllegalStateException {
        checkAllowed(disc.reasonAgainstRecover());
        history.keep(disc);
        return disc.recoverSession();
    }

    /** Promise 28. */
    public boolean scratch(int block) throws IndexOutOfBoundsException {
        checkIndex(block, disc.blocks.count);
        history.keep(disc);
        return disc.blocks.damage(block);
    }

    /** Promise 29. */
    public boolean setScan(boolean scan) {
        history.keep(disc);
        boolean before = disc.scan;
        disc.scan = scan;
        return before;
    }

    // ---- undo and snapshots

    /** Promise 30. */
    public int undo() {
        return history.bringBack(disc) ? history.count : NONE;
    }

    /** Promise 31. */
    public boolean saveSnapshot(int slot) throws IndexOutOfBoundsException {
        checkIndex(slot, SLOTS);
        boolean before = snapshots.isStored(slot);
        snapshots.store(slot, disc);
        return before;
    }

    /** Promise 32. */
    public int restoreSnapshot(int slot) throws IndexOutOfBoundsException, IllegalStateException {
        checkIndex(slot, SLOTS);
        if (!snapshots.isStored(slot)) {
            throw new IllegalStateException("the slot is empty");
        }
        snapshots.load(slot, disc);
        history.clear();
        return disc.sessions.count;
    }

    // ---- checks

    private static void checkIndex(int index, int count) {
        if (index < 0 || index >= count) {
            throw new IndexOutOfBoundsException("there is no such block, file, session or slot");
        }
    }

    private static void checkRange(int value, int least, int greatest) {
        if (value < least || value > greatest) {
            throw new IllegalArgumentException("an argument is out of its range");
        }
    }

    private static void checkAllowed(int reason) {
        if (reason != ALLOWED) {
            throw new IllegalStateException("this is refused now");
        }
    }

    private static int oneIf(boolean condition) {
        return condition ? 1 : 0;
    }

    // A word of 1 to 8 letters is held as a number that no other word has: its letters are digits from 1
    // to 26, to the base 27.
    private static long withLetter(long word, int letter) {
        return word * 27 + (letter - 'a' + 1);
    }

    private static boolean isLetter(int value) {
        return value >= 'a' && value <= 'z';
    }

    private static long packed(String word) {
        long result = 0;
        for (int i = 0; i < word.length(); i++) {
            result = withLetter(result, word.charAt(i));
        }
        return result;
    }

    /** The blocks of the directory that tells some entries. */
    private static int directoryLength(int entries) {
        return 1 + (entries - 1) / ENTRIES_IN_BLOCK;
    }

    // ---- rows

    /** The element of a row, or another answer where the row has no such index. */
    private static int at(int[] row, int index, int otherwise) {
        return index >= 0 && index < row.length ? row[index] : otherwise;
    }

    private static long at(long[] row, int index, long otherwise) {
        return index >= 0 && index < row.length ? row[index] : otherwise;
    }

    private static boolean isSet(boolean[] row, int index) {
        return index >= 0 && index < row.length && row[index];
    }

    private static void put(int[] row, int index, int value) {
        if (index >= 0 && index < row.length) {
            row[index] = value;
        }
    }

    private static void put(long[] row, int index, long value) {
        if (index >= 0 && index < row.length) {
            row[index] = value;
        }
    }

    private static void mark(boolean[] row, int index, boolean value) {
        if (index >= 0 && index < row.length) {
            row[index] = value;
        }
    }

    private static void fill(int[] row, int value) {
        for (int i = 0; i < row.length; i++) {
            row[i] = value;
        }
    }

    private static void fill(boolean[] row, boolean value) {
        for (int i = 0; i < row.length; i++) {
            row[i] = value;
        }
    }

    private static void copy(int[] from, int[] to) {
        for (int i = 0; i < from.length && i < to.length; i++) {
            to[i] = from[i];
        }
    }

    private static void copy(boolean[] from, boolean[] to) {
        for (int i = 0; i < from.length && i < to.length; i++) {
            to[i] = from[i];
        }
    }

    private static void copy(long[] from, long[] to) {
        for (int i = 0; i < from.length && i < to.length; i++) {
            to[i] = from[i];
        }
    }

    /** The first index of a value among the first elements of a row. */
    private static int indexOf(long[] row, int count, long value) {
        for (int i = 0; i < count && i < row.length; i++) {
            if (row[i] == value) {
                return i;
            }
        }
        return NONE;
    }

    /** The input buffer. */
    private static final class Input {
        final int[] bytes = new int[MAX_TEXT];
        int used = 0;

        boolean hasRoom(int more) {
            return used + more <= MAX_TEXT;
        }

        void addBytes(int four) {
            addByte(four >>> 24);
            addByte(four >>> 16);
            addByte(four >>> 8);
            addByte(four);
        }

        private void addByte(int value) {
            put(bytes, used, value & 255);
            used++;
        }

        int byteAt(int index) {
            return at(bytes, index, NONE);
        }

        /** The kind of token that a byte can be a part of; END_TOKEN for what parts tokens. */
        int kindAt(int index) {
            int value = byteAt(index);
            if (isLetter(value)) {
                return WORD_TOKEN;
            }
            if (value >= '0' && value <= '9') {
                return NUMBER_TOKEN;
            }
            if (value == ' ' || value == '\n') {
                return END_TOKEN;
            }
            return value == ';' ? SEMICOLON_TOKEN : INVALID_TOKEN;
        }

        /** The word at the start of the buffer, if spaces alone stand behind it. */
        long nameAlone() {
            int letters = 0;
            long word = 0;
            for (int index = 0; index < used; index++) {
                int value = byteAt(index);
                if (isLetter(value) && letters == index) {
                    letters++;
                    word = withLetter(word, value);
                } else if (value != ' ') {
                    return NONE;
                }
            }
            return letters >= 1 && letters <= MAX_LETTERS ? word : NONE;
        }
    }

    /** All blocks. Each row has an element for every block that the largest disc can have. */
    private static final class Blocks {
        int count = 0;
        int main = 0;
        int next = 0;
        final int[] kinds = new int[MAX_BLOCKS];
        final boolean[] bad = new boolean[MAX_BLOCKS];
        final boolean[] unreadable = new boolean[MAX_BLOCKS];
        final int[] writers = new int[MAX_BLOCKS];
        final int[] versions = new int[MAX_BLOCKS];
        final int[] numbers = new int[MAX_BLOCKS];
        final int[] insteadOf = new int[MAX_BLOCKS];
        final int[] places = new int[MAX_BLOCKS];

        void format(int blocks, int spare) {
            count = blocks;
            main = blocks - spare;
            next = 0;
            fill(kinds, EMPTY);
            fill(bad, false);
            fill(unreadable, false);
            fill(writers, NONE);
            fill(versions, NONE);
            fill(numbers, NONE);
            fill(insteadOf, NONE);
            fill(places, NONE);
        }

        void takeFrom(Blocks other) {
            count = other.count;
            main = other.main;
            next = other.next;
            copy(other.kinds, kinds);
            copy(other.bad, bad);
            copy(other.unreadable, unreadable);
            copy(other.writers, writers);
            copy(other.versions, versions);
            copy(other.numbers, numbers);
            copy(other.insteadOf, insteadOf);
            copy(other.places, places);
        }

        int kindOf(int block) {
            return at(kinds, block, EMPTY);
        }

        int writerOf(int block) {
            return at(writers, block, NONE);
        }

        int dataVersionOf(int block) {
            return at(versions, block, NONE);
        }

        int placeOf(int block) {
            return at(places, block, NONE);
        }

        boolean isBad(int block) {
            return isSet(bad, block);
        }

        boolean isUnreadable(int block) {
            return isSet(unreadable, block);
        }

        int property(int block, int what) {
            switch (what) {
                case 0: return kindOf(block);
                case 1: return oneIf(isBad(block));
                case 2: return oneIf(isUnreadable(block));
                case 3: return writerOf(block);
                case 4: return dataVersionOf(block);
                case 5: return at(numbers, block, NONE);
                default: return at(insteadOf, block, NONE);
            }
        }

        int emptySpares() {
            int found = 0;
            for (int block = main; block < count; block++) {
                found += oneIf(kindOf(block) == EMPTY);
            }
            return found;
        }

        int badOnes() {
            int found = 0;
            for (int block = 0; block < count; block++) {
                found += oneIf(isBad(block));
            }
            return found;
        }

        int mainBlocksOf(int session) {
            return blocksOf(session, 0, main);
        }

        int spareBlocksOf(int session) {
            return blocksOf(session, main, count);
        }

        private int blocksOf(int session, int from, int to) {
            int found = 0;
            for (int block = from; block < to; block++) {
                found += oneIf(writerOf(block) == session);
            }
            return found;
        }

        boolean hasRoomFor(int length) {
            return next + length <= main;
        }

        /** Whether there are enough good spare blocks for the bad ones among those that would be written. */
        boolean canRelocate(int length) {
            int needed = 0;
            for (int block = next; block < next + length && block < main; block++) {
                needed += oneIf(isBad(block));
            }
            int good = 0;
            for (int block = main; block < count; block++) {
                good += oneIf(kindOf(block) == EMPTY && !isBad(block));
            }
            return needed <= good;
        }

        /** Writes the block at next; the version is NONE for a part of a directory. */
        void writeNext(int kind, int session, int version, int number) {
            int block = next;
            next++;
            int taken = block;
            if (isBad(block)) {
                put(kinds, block, FAILED);
                put(writers, block, session);
                taken = takeSpare(session);
                put(insteadOf, taken, block);
            }
            put(places, block, taken);
            put(kinds, taken, kind);
            put(writers, taken, session);
            put(versions, taken, version);
            put(numbers, taken, number);
        }

        /** The first empty spare block that is good; those ahead of it fail. */
        private int takeSpare(int session) {
            for (int block = main; block < count; block++) {
                if (kindOf(block) == EMPTY) {
                    if (!isBad(block)) {
                        return block;
                    }
                    put(kinds, block, FAILED);
                    put(writers, block, session);
                }
            }
            return NONE;
        }

        /** Whether the places of some blocks of the main area are readable; first is NONE if there are none. */
        boolean canRead(int first, int length) {
            for (int block = first; block >= 0 && block < first + length && block < main; block++) {
                if (isSet(unreadable, at(places, block, NONE))) {
                    return false;
                }
            }
            return first != NONE;
        }

        void makeBad(int block) {
            mark(bad, block, true);
        }

        boolean damage(int block) {
            boolean[] damaged = kindOf(block) == EMPTY ? bad : unreadable;
            boolean before = isSet(damaged, block);
            mark(damaged, block, true);
            return !before;
        }
    }

    /** All versions, in the order in which they were written. */
    private static final class Versions {
        int count = 0;
        final int[] files = new int[MAX_BLOCKS];
        final int[] firsts = new int[MAX_BLOCKS];
        final int[] lengths = new int[MAX_BLOCKS];
        final int[] tags = new int[MAX_BLOCKS];
        final int[] writers = new int[MAX_BLOCKS];

        void takeFrom(Versions other) {
            count = other.count;
            copy(other.files, files);
            copy(other.firsts, firsts);
            copy(other.lengths, lengths);
            copy(other.tags, tags);
            copy(other.writers, writers);
        }

        int add(int file, int first, int length, int tag, int session) {
            int version = count;
            count++;
            put(files, version, file);
            put(firsts, version, first);
            put(lengths, version, length);
            put(tags, version, tag);
            put(writers, version, session);
            return version;
        }

        int fileOf(int version) {
            return at(files, version, NONE);
        }

        int firstOf(int version) {
            return at(firsts, version, NONE);
        }

        int lengthOf(int version) {
            return at(lengths, version, 0);
        }

        int tagOf(int version) {
            return at(tags, version, NONE);
        }

        int writerOf(int version) {
            return at(writers, version, NONE);
        }

        int countOf(int file) {
            int found = 0;
            for (int version = 0; version < count; version++) {
                found += oneIf(fileOf(version) == file);
            }
            return found;
        }
    }

    /** All sessions. */
    private static final class Sessions {
        int count = 0;
        private final int[] states = new int[MAX_SESSIONS];
        private final int[] firsts = new int[MAX_SESSIONS];
        private final int[] directories = new int[MAX_SESSIONS];
        private final int[] directoryLengths = new int[MAX_SESSIONS];
        private final int[] entries = new int[MAX_SESSIONS];
        // The files in the order of the entries, at the session times MAX_FILES plus the number of the entry.
        private final int[] entryFiles = new int[MAX_SESSIONS * MAX_FILES];
        // The versions by the files, at the session times MAX_FILES plus the file.
        private final int[] entryVersions = new int[MAX_SESSIONS * MAX_FILES];

        void takeFrom(Sessions other) {
            count = other.count;
            copy(other.states, states);
            copy(other.firsts, firsts);
            copy(other.directories, directories);
            copy(other.directoryLengths, directoryLengths);
            copy(other.entries, entries);
            copy(other.entryFiles, entryFiles);
            copy(other.entryVersions, entryVersions);
        }

        int latest() {
            return count - 1;
        }

        boolean isOpen() {
            return stateOf(latest()) == OPEN;
        }

        boolean latestIsLost() {
            return stateOf(latest()) == LOST;
        }

        boolean oneMoreIsTooMany() {
            return !isOpen() && count >= MAX_SESSIONS;
        }

        int stateOf(int session) {
            return session < count ? at(states, session, NONE) : NONE;
        }

        int firstOf(int session) {
            return at(firsts, session, NONE);
        }

        int directoryOf(int session) {
            return at(directories, session, NONE);
        }

        int directoryLengthOf(int session) {
            return at(directoryLengths, session, 0);
        }

        int entriesOf(int session) {
            return at(entries, session, 0);
        }

        int fileAt(int session, int k) {
            return k >= 0 && k < entriesOf(session) ? at(entryFiles, session * MAX_FILES + k, NONE) : NONE;
        }

        boolean hasEntry(int session, int file) {
            return at(entryVersions, session * MAX_FILES + file, ABSENT) != ABSENT;
        }

        /** The version of a file's entry; NONE if it tells that the file is erased, or if there is no entry. */
        int versionFor(int session, int file) {
            int version = at(entryVersions, session * MAX_FILES + file, ABSENT);
            return version == ABSENT ? NONE : version;
        }

        void begin(int first) {
            int session = count;
            count++;
            put(states, session, OPEN);
            put(firsts, session, first);
            put(directories, session, NONE);
            put(directoryLengths, session, 0);
            forgetEntries(session);
        }

        private void forgetEntries(int session) {
            put(entries, session, 0);
            for (int file = 0; file < MAX_FILES; file++) {
                put(entryVersions, session * MAX_FILES + file, ABSENT);
            }
        }

        /** Puts an entry into the open session; the version is NONE if the file is erased. */
        void enter(int file, int version) {
            int session = latest();
            if (!hasEntry(session, file)) {
                put(entryFiles, session * MAX_FILES + entriesOf(session), file);
                put(entries, session, entriesOf(session) + 1);
            }
            put(entryVersions, session * MAX_FILES + file, version);
        }

        /** The entries that the session has, open now or begun for it, when a file has come into it. */
        int entriesWith(int file) {
            if (!isOpen()) {
                return 1;
            }
            return entriesOf(latest()) + oneIf(!hasEntry(latest(), file));
        }

        void markClosed(int directory, int length) {
            put(states, latest(), CLOSED);
            put(directories, latest(), directory);
            put(directoryLengths, latest(), length);
        }

        void markLost() {
            put(states, latest(), LOST);
            forgetEntries(latest());
        }

        void markRecovered() {
            put(states, latest(), RECOVERED);
        }

        int linkOf(int session) {
            if (directoryOf(session) == NONE) {
                return NONE;
            }
            for (int earlier = session - 1; earlier >= 0; earlier--) {
                if (stateOf(earlier) == CLOSED) {
                    return earlier;
                }
            }
            return NONE;
        }
    }

    /** What a disc shows: the sessions that are reached, and the entry of each file that counts. */
    private static final class View {
        private int fileCount = 0;
        private final boolean[] reached = new boolean[MAX_SESSIONS];
        private final int[] sessions = new int[MAX_FILES];
        private final int[] versions = new int[MAX_FILES];
        private final boolean[] readable = new boolean[MAX_FILES];

        /** Looks at a disc as it is now; the view itself is the answer. */
        View lookAt(Disc disc) {
            fileCount = disc.fileCount;
            markReached(disc);
            for (int file = 0; file < fileCount; file++) {
                int session = sessionThatCounts(disc.sessions, file, disc.sessions.count);
                int version = disc.sessions.versionFor(session, file);
                put(sessions, file, session);
                put(versions, file, version);
                mark(readable, file, disc.canReadVersion(version));
            }
            return this;
        }

        private void markReached(Disc disc) {
            Sessions all = disc.sessions;
            boolean searching = true;
            for (int session = all.latest(); session >= 0; session--) {
                int state = all.stateOf(session);
                boolean found = state == OPEN;
                if (state == CLOSED && searching) {
                    found = disc.blocks.canRead(all.directoryOf(session), all.directoryLengthOf(session));
                    searching = found || disc.scan;
                }
                mark(reached, session, found);
            }
        }

        /** The latest session that is reached, is numbered lower than end and has an entry of the file. */
        private int sessionThatCounts(Sessions all, int file, int end) {
            for (int session = end - 1; session >= 0; session--) {
                if (isReached(session) && all.hasEntry(session, file)) {
                    return session;
                }
            }
            return NONE;
        }

        boolean isReached(int session) {
            return isSet(reached, session);
        }

        int sessionOf(int file) {
            return at(sessions, file, NONE);
        }

        int versionOf(int file) {
            return at(versions, file, NONE);
        }

        boolean isReadable(int file) {
            return isSet(readable, file);
        }

        int filesThere() {
            int found = 0;
            for (int file = 0; file < fileCount; file++) {
                found += oneIf(versionOf(file) != NONE);
            }
            return found;
        }

        int filesReadable() {
            int found = 0;
            for (int file = 0; file < fileCount; file++) {
                found += oneIf(isReadable(file));
            }
            return found;
        }

        int filesThereBefore(Sessions all, int end) {
            int found = 0;
            for (int file = 0; file < fileCount; file++) {
                found += oneIf(all.versionFor(sessionThatCounts(all, file, end), file) != NONE);
            }
            return found;
        }
    }

    /** Everything that changes can change, and what a text describes besides. */
    private static final class Disc {
        final Blocks blocks = new Blocks();
        final Versions versions = new Versions();
        final Sessions sessions = new Sessions();
        int fileCount = 0;
        private final long[] names = new long[MAX_FILES];
        boolean scan = false;
        final View view = new View();

        void format(int blockCount, int spareCount) {
            blocks.format(blockCount, spareCount);
            versions.count = 0;
            sessions.count = 0;
            fileCount = 0;
            scan = false;
        }

        /** Becomes the disc of a text, ahead of its statements. */
        void begin(Text text) {
            format(text.blocks, text.spare);
            fileCount = text.fileCount;
            copy(text.names, names);
        }

        /** Why a statement of a text is refused now. */
        int reasonAgainstStatement(Text text, int n) {
            switch (text.kindOf(n)) {
                case WRITE_STATEMENT: return reasonAgainstWrite(text.targetOf(n), text.lengthOf(n));
                case ERASE_STATEMENT: return reasonAgainstErase(text.targetOf(n));
                case CLOSE_STATEMENT: return reasonAgainstClose();
                default: return ALLOWED;
            }
        }

        void doStatement(Text text, int n) {
            switch (text.kindOf(n)) {
                case WRITE_STATEMENT: writeVersion(text.targetOf(n), text.lengthOf(n), text.tagOf(n)); break;
                case ERASE_STATEMENT: eraseFile(text.targetOf(n)); break;
                case CLOSE_STATEMENT: closeSession(); break;
                default: blocks.makeBad(text.targetOf(n)); break;
            }
        }

        void takeFrom(Disc other) {
            blocks.takeFrom(other.blocks);
            versions.takeFrom(other.versions);
            sessions.takeFrom(other.sessions);
            fileCount = other.fileCount;
            copy(other.names, names);
            scan = other.scan;
        }

        int fileNamed(long name) {
            return indexOf(names, fileCount, name);
        }

        boolean canReadVersion(int version) {
            return blocks.canRead(versions.firstOf(version), versions.lengthOf(version));
        }

        /** The block k of those that were relocated, except by a session that is lost and not recovered. */
        int relocatedBlock(int k) {
            int before = 0;
            for (int block = 0; k >= 0 && block < blocks.main; block++) {
                if (blocks.kindOf(block) == FAILED && sessions.stateOf(blocks.writerOf(block)) != LOST) {
                    if (before == k) {
                        return block;
                    }
                    before++;
                }
            }
            return NONE;
        }

        /** How many files that are readable in the view would not be so after a scratch. */
        int filesLostBy(int block, View now, View after) {
            if (blocks.kindOf(block) == EMPTY || blocks.isUnreadable(block)) {
                return 0;
            }
            mark(blocks.unreadable, block, true);
            after.lookAt(this);
            mark(blocks.unreadable, block, false);
            int lost = 0;
            for (int file = 0; file < fileCount; file++) {
                lost += oneIf(now.isReadable(file) && !after.isReadable(file));
            }
            return lost;
        }

        /** The blocks of a use that a session wrote, or of the whole disc if the session is NONE. */
        int blocksUsed(int session, int use) {
            View now = view.lookAt(this);
            int found = 0;
            for (int block = 0; block < blocks.count; block++) {
                boolean asked = session == NONE || blocks.writerOf(block) == session;
                found += oneIf(asked && useOf(block, now) == use);
            }
            return found;
        }

        private int useOf(int block, View now) {
            switch (blocks.kindOf(block)) {
                case EMPTY: return USE_EMPTY;
                case DIRECTORY: return USE_DIRECTORY;
                case FAILED: return USE_FAILED;
                default: break;
            }
            int version = blocks.dataVersionOf(block);
            return now.versionOf(versions.fileOf(version)) == version ? USE_COUNTS : USE_HIDDEN;
        }

        // ---- reasons

        int reasonAgainstWrite(int file, int length) {
            if (sessions.oneMoreIsTooMany()) {
                return TOO_MANY_SESSIONS;
            }
            if (!blocks.hasRoomFor(length + directoryLength(sessions.entriesWith(file)))) {
                return NO_ROOM;
            }
            return blocks.canRelocate(length) ? ALLOWED : NO_SPARE;
        }

        int reasonAgainstErase(int file) {
            if (view.lookAt(this).versionOf(file) == NONE) {
                return NOTHING_TO_DO;
            }
            if (sessions.oneMoreIsTooMany()) {
                return TOO_MANY_SESSIONS;
            }
            return blocks.hasRoomFor(directoryLength(sessions.entriesWith(file))) ? ALLOWED : NO_ROOM;
        }

        int reasonAgainstClose() {
            if (!sessions.isOpen()) {
                return NOT_OPEN;
            }
            return reasonAgainstDirectory(sessions.entriesOf(sessions.latest()));
        }

        int reasonAgainstCrash() {
            return sessions.isOpen() ? ALLOWED : NOT_OPEN;
        }

        int reasonAgainstRecover() {
            int entries = recoverableVersions();
            if (entries == 0) {
                return NOTHING_TO_DO;
            }
            return sessions.oneMoreIsTooMany() ? TOO_MANY_SESSIONS : reasonAgainstDirectory(entries);
        }

        private int reasonAgainstDirectory(int entries) {
            int length = directoryLength(entries);
            if (!blocks.hasRoomFor(length)) {
                return NO_ROOM;
            }
            return blocks.canRelocate(length) ? ALLOWED : NO_SPARE;
        }

        // ---- changes, which are done only if no reason is against them

        int writeVersion(int file, int length, int tag) {
            beginIfNeeded();
            int session = sessions.latest();
            int version = versions.add(file, blocks.next, length, tag, session);
            for (int number = 0; number < length; number++) {
                blocks.writeNext(DATA, session, version, number);
            }
            sessions.enter(file, version);
            return version;
        }

        void eraseFile(int file) {
            beginIfNeeded();
            sessions.enter(file, NONE);
        }

        private void beginIfNeeded() {
            if (!sessions.isOpen()) {
                sessions.begin(blocks.next);
            }
        }

        int closeSession() {
            int session = sessions.latest();
            int directory = blocks.next;
            int length = directoryLength(sessions.entriesOf(session));
            for (int number = 0; number < length; number++) {
                blocks.writeNext(DIRECTORY, session, NONE, number);
            }
            sessions.markClosed(directory, length);
            return session;
        }

        int loseSession() {
            sessions.markLost();
            return blocks.mainBlocksOf(sessions.latest());
        }

        int recoverSession() {
            int lost = sessions.latest();
            sessions.markRecovered();
            sessions.begin(blocks.next);
            for (int version = 0; version < versions.count; version++) {
                int file = versions.fileOf(version);
                if (recoverableVersionOf(file, lost) == version) {
                    sessions.enter(file, version);
                }
            }
            closeSession();
            return sessions.entriesOf(sessions.latest());
        }

        int recoverableVersions() {
            int found = 0;
            for (int file = 0; sessions.latestIsLost() && file < fileCount; file++) {
                found += oneIf(recoverableVersionOf(file, sessions.latest()) != NONE);
            }
            return found;
        }

        /** The latest readable version of a file that the lost session wrote. */
        private int recoverableVersionOf(int file, int lost) {
            for (int version = versions.count - 1; version >= 0; version--) {
                boolean asked = versions.fileOf(version) == file && versions.writerOf(version) == lost;
                if (asked && canReadVersion(version)) {
                    return version;
                }
            }
            return NONE;
        }
    }

    /** The discs before the latest changes, in a ring whose oldest one is overwritten first. */
    private static final class History {
        int count = 0;
        private int oldest = 0;
        private final Disc[] ring = new Disc[UNDO_DEPTH];

        void clear() {
            count = 0;
            oldest = 0;
        }

        void keep(Disc disc) {
            int index = (oldest + count) % UNDO_DEPTH;
            if (count < UNDO_DEPTH) {
                count++;
            } else {
                oldest = (oldest + 1) % UNDO_DEPTH;
            }
            storeIn(ring, index, disc);
        }

        boolean bringBack(Disc disc) {
            if (count == 0) {
                return false;
            }
            count--;
            loadFrom(ring, (oldest + count) % UNDO_DEPTH, disc);
            return true;
        }
    }

    /** The two slots. */
    private static final class Snapshots {
        private final boolean[] stored = new boolean[SLOTS];
        private final Disc[] discs = new Disc[SLOTS];

        void clear() {
            fill(stored, false);
        }

        boolean isStored(int slot) {
            return isSet(stored, slot);
        }

        void store(int slot, Disc disc) {
            mark(stored, slot, true);
            storeIn(discs, slot, disc);
        }

        void load(int slot, Disc disc) {
            loadFrom(discs, slot, disc);
        }
    }

    // A place of such a row gets its disc when it is used first, and keeps it: few objects use all of them.
    private static void storeIn(Disc[] row, int index, Disc disc) {
        if (index >= 0 && index < row.length) {
            if (row[index] == null) {
                row[index] = new Disc();
            }
            row[index].takeFrom(disc);
        }
    }

    private static void loadFrom(Disc[] row, int index, Disc disc) {
        if (index >= 0 && index < row.length && row[index] != null) {
            disc.takeFrom(row[index]);
        }
    }

    /** The tokens of a text, in their order. */
    private static final class Tokens {
        int count = 0;
        private int length = 0;
        private final int[] kinds = new int[MAX_TEXT];
        private final int[] starts = new int[MAX_TEXT];
        // What a word or a number is; nothing of use for an invalid token.
        private final long[] values = new long[MAX_TEXT];

        void read(Input input, int textLength) {
            length = textLength;
            count = 0;
            int before = END_TOKEN;
            for (int index = 0; index < length; index++) {
                int kind = input.kindAt(index);
                boolean inRun = kind == before && (kind == WORD_TOKEN || kind == NUMBER_TOKEN);
                if (kind != END_TOKEN && !inRun) {
                    begin(kind, index);
                }
                if (kind == WORD_TOKEN) {
                    takeLetter(input.byteAt(index), index);
                } else if (kind == NUMBER_TOKEN) {
                    takeDigit(input.byteAt(index), index);
                }
                before = kind;
            }
        }

        /** The kind of a token; all behind the last one are ends of the text. */
        int kindOf(int token) {
            return token < count ? at(kinds, token, END_TOKEN) : END_TOKEN;
        }

        /** The index of a token's first byte; the text's length for an end of the text. */
        int startOf(int token) {
            return token < count ? at(starts, token, length) : length;
        }

        int numberOf(int token) {
            return (int) at(values, token, NONE);
        }

        long valueOf(int token) {
            return at(values, token, NONE);
        }

        private void begin(int kind, int start) {
            put(kinds, count, kind);
            put(starts, count, start);
            put(values, count, 0);
            count++;
        }

        private void takeLetter(int letter, int index) {
            int token = count - 1;
            put(values, token, withLetter(valueOf(token), letter));
            if (index - startOf(token) >= MAX_LETTERS) {
                put(kinds, token, INVALID_TOKEN);
            }
        }

        private void takeDigit(int digit, int index) {
            int token = count - 1;
            put(values, token, valueOf(token) * 10 + (digit - '0'));
            if (index - startOf(token) >= MAX_DIGITS) {
                put(kinds, token, INVALID_TOKEN);
            }
        }
    }

    /** What a text says: its head, its names and its statements, up to the first error. */
    private static final class Text {
        int code = 0;
        /** The position of the error; NONE without one. */
        int position = NONE;
        int blocks = MIN_BLOCKS;
        int spare = 0;
        int fileCount = 0;
        final long[] names = new long[MAX_FILES];
        /** The statements that are done on the disc: all but those that tell a file. */
        int count = 0;
        private final int[] kinds = new int[MAX_STATEMENTS];
        private final int[] starts = new int[MAX_STATEMENTS];
        private final int[] targets = new int[MAX_STATEMENTS];
        private final int[] lengths = new int[MAX_STATEMENTS];
        private final int[] tags = new int[MAX_STATEMENTS];
        private final boolean[] bad = new boolean[MAX_BLOCKS];
        private final Tokens tokens = new Tokens();
        /** The token that is read last; an error is one of this token. */
        private int token = 0;

        void read(Input input, int length) {
            code = 0;
            position = NONE;
            blocks = MIN_BLOCKS;
            spare = 0;
            fileCount = 0;
            count = 0;
            fill(bad, false);
            tokens.read(input, length);
            token = 0;
            boolean going = readHead();
            while (going && token < tokens.count - 1) {
                token++;
                going = readStatement() && readSemicolon();
            }
            if (!going) {
                position = tokens.startOf(token);
            }
        }

        /** A statement that the disc refuses: an error of its first word. */
        void refuseStatement(int n) {
            code = REFUSED;
            position = at(starts, n, NONE);
        }

        int kindOf(int n) {
            return at(kinds, n, NONE);
        }

        /** The block or the file that a statement names. */
        int targetOf(int n) {
            return at(targets, n, NONE);
        }

        int lengthOf(int n) {
            return at(lengths, n, 0);
        }

        int tagOf(int n) {
            return at(tags, n, 0);
        }

        private boolean fail(int errorCode) {
            code = errorCode;
            return false;
        }

        private boolean readHead() {
            if (!isWord("disc")) {
                return fail(BAD_TOKEN);
            }
            if (!readNumber(MIN_BLOCKS, MAX_BLOCKS)) {
                return false;
            }
            blocks = tokens.numberOf(token);
            if (!readNumber(0, Math.min(MAX_SPARE, blocks / 2))) {
                return false;
            }
            spare = tokens.numberOf(token);
            return readSemicolon();
        }

        private boolean readStatement() {
            if (isWord("bad")) {
                return readBad();
            }
            if (isWord("file")) {
                return readNewFile();
            }
            if (isWord("write")) {
                return readWrite();
            }
            if (isWord("erase")) {
                return readErase();
            }
            if (isWord("close")) {
                return add(CLOSE_STATEMENT, tokens.startOf(token), NONE);
            }
            return fail(BAD_TOKEN);
        }

        private boolean readBad() {
            int start = tokens.startOf(token);
            if (!readNumber(0, blocks - 1)) {
                return false;
            }
            int block = tokens.numberOf(token);
            if (isSet(bad, block)) {
                return fail(KNOWN_ALREADY);
            }
            mark(bad, block, true);
            return add(BAD_STATEMENT, start, block);
        }

        private boolean readNewFile() {
            if (fileCount >= MAX_FILES) {
                return fail(TOO_MANY_FILES);
            }
            token++;
            if (tokens.kindOf(token) != WORD_TOKEN) {
                return fail(BAD_TOKEN);
            }
            long name = tokens.valueOf(token);
            if (indexOf(names, fileCount, name) != NONE) {
                return fail(KNOWN_ALREADY);
            }
            put(names, fileCount, name);
            fileCount++;
            return true;
        }

        private boolean readWrite() {
            int start = tokens.startOf(token);
            int file = readFile();
            if (file == NONE || !readNumber(1, MAX_LENGTH)) {
                return false;
            }
            int length = tokens.numberOf(token);
            if (!readNumber(0, MAX_TAG)) {
                return false;
            }
            put(lengths, count, length);
            put(tags, count, tokens.numberOf(token));
            return add(WRITE_STATEMENT, start, file);
        }

        private boolean readErase() {
            int start = tokens.startOf(token);
            int file = readFile();
            return file != NONE && add(ERASE_STATEMENT, start, file);
        }

        private boolean add(int kind, int start, int target) {
            put(kinds, count, kind);
            put(starts, count, start);
            put(targets, count, target);
            count++;
            return true;
        }

        private boolean isWord(String wanted) {
            return tokens.kindOf(token) == WORD_TOKEN && tokens.valueOf(token) == packed(wanted);
        }

        /** Reads the name of an earlier file; NONE if this fails. */
        private int readFile() {
            token++;
            if (tokens.kindOf(token) != WORD_TOKEN) {
                fail(BAD_TOKEN);
                return NONE;
            }
            int file = indexOf(names, fileCount, tokens.valueOf(token));
            if (file == NONE) {
                fail(UNKNOWN_FILE);
            }
            return file;
        }

        private boolean readNumber(int least, int greatest) {
            token++;
            if (tokens.kindOf(token) != NUMBER_TOKEN) {
                return fail(BAD_TOKEN);
            }
            int number = tokens.numberOf(token);
            return number >= least && number <= greatest || fail(OUT_OF_RANGE);
        }

        private boolean readSemicolon() {
            token++;
            return tokens.kindOf(token) == SEMICOLON_TOKEN || fail(BAD_TOKEN);
        }
    }
}
