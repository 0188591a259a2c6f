import java.util.ArrayDeque;
import java.util.ArrayList;
import java.util.Arrays;
import java.util.Deque;
import java.util.LinkedHashMap;
import java.util.List;
import java.util.Map;
import java.util.TreeMap;
import java.util.regex.Matcher;
import java.util.regex.Pattern;

/**
 * The document once more, in its plainest form and with the whole Java library, so that long runs of
 * calls can be compared. It is written apart from OnceDisc: whole copies, lists and maps.
 */
final class Model {
    private static final class Block {
        int kind;
        boolean bad;
        boolean unreadable;
        int session = -1;
        int version = -1;
        int number = -1;
        int instead = -1;

        Block copy() {
            Block block = new Block();
            block.kind = kind;
            block.bad = bad;
            block.unreadable = unreadable;
            block.session = session;
            block.version = version;
            block.number = number;
            block.instead = instead;
            return block;
        }
    }

    private record Version(int file, int session, List<Integer> blocks, int tag) {
    }

    private static final class Session {
        char state = 'o';
        int first;
        int link = -1;
        Map<Integer, Integer> entries = new LinkedHashMap<>();
        List<Integer> directory = new ArrayList<>();

        Session copy() {
            Session session = new Session();
            session.state = state;
            session.first = first;
            session.link = link;
            session.entries.putAll(entries);
            session.directory.addAll(directory);
            return session;
        }
    }

    private static final class Disc {
        int spare;
        int next;
        boolean scan;
        List<String> names = new ArrayList<>();
        List<Block> blocks = new ArrayList<>();
        List<Version> versions = new ArrayList<>();
        List<Session> sessions = new ArrayList<>();

        Disc(int count, int spare) {
            this.spare = spare;
            for (int i = 0; i < count; i++) {
                blocks.add(new Block());
            }
        }

        Disc copy() {
            Disc disc = new Disc(0, spare);
            disc.next = next;
            disc.scan = scan;
            disc.names.addAll(names);
            blocks.forEach(block -> disc.blocks.add(block.copy()));
            disc.versions.addAll(versions);
            sessions.forEach(session -> disc.sessions.add(session.copy()));
            return disc;
        }

        int main() {
            return blocks.size() - spare;
        }

        Session open() {
            Session last = sessions.isEmpty() ? null : sessions.get(sessions.size() - 1);
            return last != null && last.state == 'o' ? last : null;
        }

        int place(int block) {
            if (block >= main() || blocks.get(block).kind == 0) {
                return -1;
            }
            if (blocks.get(block).kind != 3) {
                return block;
            }
            for (int i = main(); i < blocks.size(); i++) {
                if (blocks.get(i).instead == block) {
                    return i;
                }
            }
            throw new AssertionError("a failed block without a spare block");
        }

        boolean readable(List<Integer> list) {
            return list.stream().noneMatch(block -> blocks.get(place(block)).unreadable);
        }

        List<Integer> reached() {
            List<Integer> reached = new ArrayList<>();
            int at = sessions.size() - 1;
            if (open() != null) {
                reached.add(at);
                at--;
            }
            while (at >= 0 && sessions.get(at).state != 'c') {
                at--;
            }
            while (at >= 0) {
                boolean good = readable(sessions.get(at).directory);
                if (good) {
                    reached.add(at);
                } else if (!scan) {
                    break;
                }
                at = sessions.get(at).link;
            }
            return reached;
        }

        /** The session whose entry of the file counts, among the sessions before one. */
        int counting(int file, int before) {
            for (int session : reached()) {
                if (session < before && sessions.get(session).entries.containsKey(file)) {
                    return session;
                }
            }
            return -1;
        }

        int version(int file) {
            int session = counting(file, 99);
            return session < 0 ? -1 : sessions.get(session).entries.get(file);
        }

        boolean fileReadable(int file) {
            return version(file) >= 0 && readable(versions.get(version(file)).blocks());
        }

        /** The latest readable version of each file that the latest session, if it is lost, wrote. */
        List<Integer> recoverable() {
            int last = sessions.size() - 1;
            Map<Integer, Integer> latest = new TreeMap<>();
            if (last >= 0 && sessions.get(last).state == 'l') {
                for (int v = 0; v < versions.size(); v++) {
                    if (versions.get(v).session() == last && readable(versions.get(v).blocks())) {
                        latest.put(versions.get(v).file(), v);
                    }
                }
            }
            List<Integer> sorted = new ArrayList<>(latest.values());
            sorted.sort(null);
            return sorted;
        }

        boolean tooMany() {
            return open() == null && sessions.size() == 12;
        }

        int directory(int entries) {
            return (entries + 3) / 4;
        }

        int entriesWith(int file) {
            if (open() == null) {
                return 1;
            }
            return open().entries.size() + (open().entries.containsKey(file) ? 0 : 1);
        }

        int spareReason(int length) {
            long bad = blocks.subList(next, next + length).stream().filter(block -> block.bad).count();
            long good = blocks.subList(main(), blocks.size()).stream()
                .filter(block -> block.kind == 0 && !block.bad).count();
            return bad > good ? 5 : 0;
        }

        int reasonWrite(int file, int length) {
            if (tooMany()) {
                return 3;
            }
            return next + length + directory(entriesWith(file)) > main() ? 4 : spareReason(length);
        }

        int reasonErase(int file) {
            if (version(file) < 0) {
                return 2;
            }
            if (tooMany()) {
                return 3;
            }
            return next + directory(entriesWith(file)) > main() ? 4 : 0;
        }

        int reasonDirectory(int entries) {
            return next + directory(entries) > main() ? 4 : spareReason(directory(entries));
        }

        int reason(int what) {
            if (what == 2) {
                int found = recoverable().size();
                return found == 0 ? 2 : tooMany() ? 3 : reasonDirectory(found);
            }
            if (open() == null) {
                return 1;
            }
            return what == 1 ? 0 : reasonDirectory(open().entries.size());
        }

        int put(int kind, int session, int version, int number) {
            int block = next++;
            int target = block;
            while (blocks.get(target).bad || blocks.get(target).kind != 0) {
                if (blocks.get(target).kind == 0) {
                    blocks.get(target).kind = 3;
                    blocks.get(target).session = session;
                }
                target = target == block ? main() : target + 1;
            }
            Block taken = blocks.get(target);
            taken.kind = kind;
            taken.session = session;
            taken.version = version;
            taken.number = number;
            taken.instead = target == block ? -1 : block;
            return block;
        }

        Session begin() {
            if (open() == null) {
                Session session = new Session();
                session.first = next;
                sessions.add(session);
            }
            return open();
        }

        int write(int file, int length, int tag) {
            Session session = begin();
            List<Integer> list = new ArrayList<>();
            for (int i = 0; i < length; i++) {
                list.add(put(1, sessions.size() - 1, versions.size(), i));
            }
            versions.add(new Version(file, sessions.size() - 1, list, tag));
            session.entries.put(file, versions.size() - 1);
            return versions.size() - 1;
        }

        void close() {
            Session session = open();
            int blocksNeeded = directory(session.entries.size());
            for (int i = 0; i < blocksNeeded; i++) {
                session.directory.add(put(2, sessions.size() - 1, -1, i));
            }
            for (int i = 0; i < sessions.size() - 1; i++) {
                session.link = sessions.get(i).state == 'c' ? i : session.link;
            }
            session.state = 'c';
        }

        int recover() {
            List<Integer> found = recoverable();
            sessions.get(sessions.size() - 1).state = 'r';
            Session session = begin();
            found.forEach(v -> session.entries.put(versions.get(v).file(), v));
            close();
            return found.size();
        }

        int there() {
            return (int) files().filter(file -> version(file) >= 0).count();
        }

        java.util.stream.IntStream files() {
            return java.util.stream.IntStream.range(0, names.size());
        }

        int use(Block block) {
            if (block.kind != 1) {
                return block.kind == 0 ? 0 : block.kind + 1;
            }
            return files().anyMatch(file -> version(file) == block.version) ? 1 : 2;
        }

        int used(int session, int use) {
            return (int) blocks.stream()
                .filter(block -> (session < 0 || block.session == session) && use(block) == use).count();
        }

        int risk(int block) {
            Disc after = copy();
            after.scratch(block);
            return (int) files().filter(file -> fileReadable(file) && !after.fileReadable(file)).count();
        }

        boolean scratch(int number) {
            Block block = blocks.get(number);
            boolean before = block.kind == 0 ? block.bad : block.unreadable;
            if (block.kind == 0) {
                block.bad = true;
            } else {
                block.unreadable = true;
            }
            return !before;
        }
    }

    private static final class Error extends Exception {
        private static final long serialVersionUID = 1;
        final int code;
        final int position;

        Error(int code, int position) {
            this.code = code;
            this.position = position;
        }
    }

    private record Token(String text, int position) {
        boolean word() {
            return text.matches("[a-z]{1,8}");
        }

        boolean number() {
            return text.matches("[0-9]{1,3}");
        }
    }

    private Disc disc = new Disc(8, 0);
    private String buffer = "";
    private int position = -1;
    private final Deque<Disc> history = new ArrayDeque<>();
    private final Disc[] slots = new Disc[2];
    private List<Token> tokens;
    private int textLength;

    private static void index(int i, int count) {
        if (i < 0 || i >= count) {
            throw new IndexOutOfBoundsException();
        }
    }

    private static void range(int i, int least, int most) {
        if (i < least || i > most) {
            throw new IllegalArgumentException();
        }
    }

    private static void allowed(int reason) {
        if (reason != 0) {
            throw new IllegalStateException();
        }
    }

    private void changed() {
        history.addLast(disc.copy());
        if (history.size() > 10) {
            history.removeFirst();
        }
    }

    int append(int... words) {
        if (buffer.length() + 20 > 600) {
            return -1;
        }
        for (int word : words) {
            for (int shift = 24; shift >= 0; shift -= 8) {
                buffer += (char) (word >>> shift & 255);
            }
        }
        return buffer.length();
    }

    int parse(int length) {
        range(length, 0, buffer.length());
        String text = buffer.substring(0, length);
        buffer = "";
        position = -1;
        try {
            disc = read(text);
            history.clear();
            Arrays.fill(slots, null);
            return 0;
        } catch (Error error) {
            position = error.position;
            return error.code;
        }
    }

    private Token peek() {
        return tokens.isEmpty() ? new Token("", textLength) : tokens.get(0);
    }

    private Token take(boolean good) throws Error {
        if (!good) {
            throw new Error(1, peek().position());
        }
        return tokens.remove(0);
    }

    private int number(int least, int most) throws Error {
        Token token = take(peek().number());
        int value = Integer.parseInt(token.text());
        if (value < least || value > most) {
            throw new Error(3, token.position());
        }
        return value;
    }

    private int knownFile(Disc read) throws Error {
        Token token = take(peek().word());
        if (!read.names.contains(token.text())) {
            throw new Error(4, token.position());
        }
        return read.names.indexOf(token.text());
    }

    private Disc read(String text) throws Error {
        tokens = new ArrayList<>();
        textLength = text.length();
        Matcher matcher = Pattern.compile("[a-z]+|[0-9]+|[^ \n]", Pattern.DOTALL).matcher(text);
        while (matcher.find()) {
            tokens.add(new Token(matcher.group(), matcher.start()));
        }
        take(peek().text().equals("disc"));
        int count = number(8, 96);
        Disc read = new Disc(count, number(0, Math.min(16, count / 2)));
        take(peek().text().equals(";"));
        while (!tokens.isEmpty()) {
            statement(read);
            take(peek().text().equals(";"));
        }
        return read;
    }

    private void statement(Disc read) throws Error {
        Token first = take(peek().text().matches("bad|file|write|erase|close"));
        int reason = 0;
        switch (first.text()) {
            case "bad" -> {
                int at = peek().position();
                int block = number(0, read.blocks.size() - 1);
                if (read.blocks.get(block).bad) {
                    throw new Error(2, at);
                }
                read.blocks.get(block).bad = true;
            }
            case "file" -> {
                if (read.names.size() == 10) {
                    throw new Error(5, first.position());
                }
                Token name = take(peek().word());
                if (read.names.contains(name.text())) {
                    throw new Error(2, name.position());
                }
                read.names.add(name.text());
            }
            case "write" -> {
                int file = knownFile(read);
                int length = number(1, 8);
                int tag = number(0, 999);
                reason = read.reasonWrite(file, length);
                if (reason == 0) {
                    read.write(file, length, tag);
                }
            }
            case "erase" -> {
                int file = knownFile(read);
                reason = read.reasonErase(file);
                if (reason == 0) {
                    read.begin().entries.put(file, -1);
                }
            }
            default -> {
                reason = read.reason(0);
                if (reason == 0) {
                    read.close();
                }
            }
        }
        if (reason != 0) {
            throw new Error(6, first.position());
        }
    }

    int errorPosition() {
        return position;
    }

    int size(int what) {
        range(what, 0, 12);
        return switch (what) {
            case 0 -> disc.blocks.size();
            case 1 -> disc.spare;
            case 2 -> disc.names.size();
            case 3 -> disc.sessions.size();
            case 4 -> disc.next;
            case 5 -> (int) disc.blocks.subList(disc.main(), disc.blocks.size()).stream()
                .filter(block -> block.kind == 0).count();
            case 6 -> (int) disc.blocks.stream().filter(block -> block.bad).count();
            case 7 -> disc.there();
            case 8 -> (int) disc.files().filter(disc::fileReadable).count();
            case 9 -> disc.open() == null ? 0 : 1;
            case 10 -> disc.scan ? 1 : 0;
            case 11 -> history.size();
            default -> disc.versions.size();
        };
    }

    int find() {
        String name = buffer.replaceAll(" +\\z", "");
        buffer = "";
        return disc.names.indexOf(name);
    }

    int block(int number, int what) {
        index(number, disc.blocks.size());
        range(what, 0, 6);
        Block block = disc.blocks.get(number);
        int[] properties = {block.kind, block.bad ? 1 : 0, block.unreadable ? 1 : 0, block.session, block.version,
            block.number, block.instead};
        return properties[what];
    }

    int place(int block) {
        index(block, disc.blocks.size());
        return disc.place(block);
    }

    int session(int number, int what) {
        index(number, disc.sessions.size());
        range(what, 0, 8);
        Session session = disc.sessions.get(number);
        boolean has = !session.directory.isEmpty();
        long inMain = disc.blocks.subList(0, disc.main()).stream().filter(block -> block.session == number).count();
        long inAll = disc.blocks.stream().filter(block -> block.session == number).count();
        int[] properties = {"oclr".indexOf(session.state), session.first, (int) inMain, session.entries.size(),
            has ? session.directory.get(0) : -1, has && disc.readable(session.directory) ? 1 : 0, session.link,
            disc.reached().contains(number) ? 1 : 0, (int) (inAll - inMain)};
        return properties[what];
    }

    int entry(int number, int k, int part) {
        index(number, disc.sessions.size());
        range(part, 0, 4);
        List<Integer> files = new ArrayList<>(disc.sessions.get(number).entries.keySet());
        if (k < 0 || k >= files.size()) {
            return -1;
        }
        int version = disc.sessions.get(number).entries.get(files.get(k));
        return part == 0 ? files.get(k) : part == 1 ? version : partOf(version, part);
    }

    private int partOf(int version, int part) {
        if (version < 0) {
            return part == 3 ? 0 : -1;
        }
        Version v = disc.versions.get(version);
        return part == 2 ? v.blocks().get(0) : part == 3 ? v.blocks().size() : v.tag();
    }

    int file(int file, int what) {
        index(file, disc.names.size());
        range(what, 0, 6);
        int version = disc.version(file);
        return switch (what) {
            case 0 -> version < 0 ? 0 : 1;
            case 1 -> disc.fileReadable(file) ? 1 : 0;
            case 2 -> version;
            case 3, 4 -> partOf(version, what);
            case 5 -> disc.counting(file, 99);
            default -> (int) disc.versions.stream().filter(v -> v.file() == file).count();
        };
    }

    int where(int file, int k) {
        index(file, disc.names.size());
        int version = disc.version(file);
        if (version < 0 || k < 0 || k >= disc.versions.get(version).blocks().size()) {
            return -1;
        }
        return disc.place(disc.versions.get(version).blocks().get(k));
    }

    int defect(int k, boolean spare) {
        List<Integer> list = new ArrayList<>();
        for (int block = 0; block < disc.main(); block++) {
            int session = disc.blocks.get(block).session;
            if (session >= 0 && disc.place(block) != block && disc.sessions.get(session).state != 'l') {
                list.add(block);
            }
        }
        return k < 0 || k >= list.size() ? -1 : spare ? disc.place(list.get(k)) : list.get(k);
    }

    int whyNotWrite(int file, int length) {
        index(file, disc.names.size());
        range(length, 1, 8);
        return disc.reasonWrite(file, length);
    }

    int whyNot(int what) {
        range(what, 0, 2);
        return disc.reason(what);
    }

    int couldRecover() {
        return disc.recoverable().size();
    }

    int risk(int block) {
        index(block, disc.blocks.size());
        return disc.risk(block);
    }

    int weakest() {
        int best = 0;
        for (int block = 1; block < disc.blocks.size(); block++) {
            best = disc.risk(block) > disc.risk(best) ? block : best;
        }
        return best;
    }

    int filesBefore(int session) {
        index(session, disc.sessions.size());
        return (int) disc.files().filter(file -> {
            int counting = disc.counting(file, session);
            return counting >= 0 && disc.sessions.get(counting).entries.get(file) >= 0;
        }).count();
    }

    int space(int use) {
        range(use, 0, 4);
        return disc.used(-1, use);
    }

    int spaceOf(int session, int use) {
        index(session, disc.sessions.size());
        range(use, 1, 4);
        return disc.used(session, use);
    }

    double share() {
        int written = disc.blocks.size() - disc.used(-1, 0);
        return written == 0 ? 1.0 : (double) disc.used(-1, 1) / written;
    }

    int write(int file, int length, int tag) {
        index(file, disc.names.size());
        range(length, 1, 8);
        range(tag, 0, 999);
        allowed(disc.reasonWrite(file, length));
        changed();
        return disc.write(file, length, tag);
    }

    int erase(int file) {
        index(file, disc.names.size());
        allowed(disc.reasonErase(file));
        changed();
        disc.begin().entries.put(file, -1);
        return disc.there();
    }

    int close() {
        allowed(disc.reason(0));
        changed();
        disc.close();
        return disc.sessions.size() - 1;
    }

    int crash() {
        allowed(disc.reason(1));
        changed();
        Session session = disc.open();
        session.state = 'l';
        session.entries.clear();
        return session(disc.sessions.size() - 1, 2);
    }

    int recover() {
        allowed(disc.reason(2));
        changed();
        return disc.recover();
    }

    boolean scratch(int block) {
        index(block, disc.blocks.size());
        changed();
        return disc.scratch(block);
    }

    boolean setScan(boolean scan) {
        changed();
        boolean before = disc.scan;
        disc.scan = scan;
        return before;
    }

    int undo() {
        if (history.isEmpty()) {
            return -1;
        }
        disc = history.removeLast();
        return history.size();
    }

    boolean saveSnapshot(int slot) {
        index(slot, 2);
        boolean before = slots[slot] != null;
        slots[slot] = disc.copy();
        return before;
    }

    int restoreSnapshot(int slot) {
        index(slot, 2);
        allowed(slots[slot] == null ? 1 : 0);
        disc = slots[slot].copy();
        history.clear();
        return disc.sessions.size();
    }
}
