import java.util.ArrayList;
import java.util.Arrays;
import java.util.List;
import java.util.function.LongSupplier;

/** Long runs of calls, the same ones each time, on a disc and on the model; all answers are compared. */
public final class ModelTest {
    private static final int RUNS = 1500;
    private static final int CALLS = 512;
    private static final String[] NAMES = {"a", "b", "ab", "disc", "abcdefgh", "z", "bad", "file", "q", "zz", "close", "m"};

    private final OnceDisc disc = new OnceDisc();
    private final Model model = new Model();
    private final List<String> calls = new ArrayList<>();
    private final int leaning;
    private long seed;
    private boolean failed = false;

    private ModelTest(int run) {
        seed = run * 7919L + 17;
        leaning = run % 5;
    }

    public static void main(String[] args) {
        int runs = args.length > 0 ? Integer.parseInt(args[0]) : RUNS;
        for (int run = 0; run < runs && !Check.hasFailed(); run++) {
            new ModelTest(run).play();
        }
        Check.end();
    }

    private int upTo(int bound) {
        seed = seed * 6364136223846793005L + 1442695040888963407L;
        return (int) ((seed >>> 33) % bound);
    }

    private boolean oneIn(int n) {
        return upTo(n) == 0;
    }

    private void play() {
        parseText();
        while (calls.size() < CALLS && !failed) {
            int kind = upTo(100);
            if (kind < 45) {
                change();
            } else if (kind < 48) {
                parseText();
            } else if (kind < 50) {
                findName();
            } else {
                look();
            }
        }
    }

    private void both(String call, LongSupplier onDisc, LongSupplier onModel) {
        if (failed || calls.size() >= CALLS) {
            return;
        }
        calls.add(call);
        String got = Check.answer(onDisc);
        String due = Check.answer(onModel);
        if (!got.equals(due)) {
            failed = true;
            Check.equal(String.join("\n", calls), got, due);
        }
    }

    private void change() {
        int file = oneIn(20) ? upTo(14) - 2 : upTo(Math.max(1, model.size(2)));
        int length = oneIn(20) ? upTo(14) - 2 : 1 + upTo(oneIn(3) ? 8 : 2);
        int tag = oneIn(20) ? upTo(1100) - 50 : upTo(1000);
        int block = block();
        int slot = upTo(40) == 0 ? upTo(5) - 2 : upTo(2);
        switch (upTo(24)) {
            case 0, 1, 2, 3, 4, 5, 6, 7:
                both("write(" + file + ", " + length + ", " + tag + ")", () -> disc.write(file, length, tag),
                    () -> model.write(file, length, tag));
                break;
            case 8, 9, 10:
                both("erase(" + file + ")", () -> disc.erase(file), () -> model.erase(file));
                break;
            case 11, 12, 13:
                both("close()", disc::close, model::close);
                break;
            case 14:
                both("crash()", disc::crash, model::crash);
                both("couldRecover()", disc::couldRecover, model::couldRecover);
                break;
            case 15, 16:
                both("recover()", disc::recover, model::recover);
                break;
            case 17, 18:
                scratch(block);
                break;
            case 19:
                boolean scan = oneIn(2);
                both("setScan(" + scan + ")", () -> disc.setScan(scan) ? 1 : 0, () -> model.setScan(scan) ? 1 : 0);
                break;
            case 20, 21:
                for (int n = leaning == 1 ? 1 : upTo(12); n >= 0; n--) {
                    both("undo()", disc::undo, model::undo);
                }
                break;
            case 22:
                both("saveSnapshot(" + slot + ")", () -> disc.saveSnapshot(slot) ? 1 : 0,
                    () -> model.saveSnapshot(slot) ? 1 : 0);
                break;
            default:
                if (leaning != 1 || oneIn(4)) {
                    both("restoreSnapshot(" + slot + ")", () -> disc.restoreSnapshot(slot),
                        () -> model.restoreSnapshot(slot));
                }
                break;
        }
    }

    private void scratch(int block) {
        both("scratch(" + block + ")", () -> disc.scratch(block) ? 1 : 0, () -> model.scratch(block) ? 1 : 0);
    }

    private int block() {
        if (oneIn(30)) {
            return upTo(104) - 4;
        }
        // Near next, or near the spare area, much more happens than elsewhere.
        switch (upTo(4)) {
            case 0: return Math.max(0, model.size(4) - upTo(8));
            case 1: return Math.min(model.size(0) - 1, model.size(4) + upTo(4));
            case 2: return model.size(0) - 1 - upTo(Math.max(1, model.size(1)));
            default: return upTo(model.size(0));
        }
    }

    private void look() {
        int what = oneIn(15) ? upTo(18) - 2 : upTo(13);
        int file = oneIn(20) ? upTo(14) - 2 : upTo(Math.max(1, model.size(2)));
        int session = oneIn(20) ? upTo(16) - 2 : upTo(Math.max(1, model.size(3)));
        int block = block();
        int k = oneIn(20) ? -1 - upTo(3) : upTo(oneIn(5) ? 12 : 4);
        int length = upTo(11) - 1;
        boolean spare = oneIn(2);
        switch (upTo(21)) {
            case 0, 1:
                both("size(" + what + ")", () -> disc.size(what), () -> model.size(what));
                break;
            case 2, 3:
                int property = what % 8;
                both("block(" + block + ", " + property + ")", () -> disc.block(block, property),
                    () -> model.block(block, property));
                break;
            case 4:
                both("place(" + block + ")", () -> disc.place(block), () -> model.place(block));
                break;
            case 5, 6:
                int told = what % 10;
                both("session(" + session + ", " + told + ")", () -> disc.session(session, told),
                    () -> model.session(session, told));
                break;
            case 7, 8:
                int part = what % 6;
                both("entry(" + session + ", " + k + ", " + part + ")", () -> disc.entry(session, k, part),
                    () -> model.entry(session, k, part));
                break;
            case 9, 10:
                int known = what % 8;
                both("file(" + file + ", " + known + ")", () -> disc.file(file, known), () -> model.file(file, known));
                break;
            case 11:
                both("where(" + file + ", " + k + ")", () -> disc.where(file, k), () -> model.where(file, k));
                break;
            case 12:
                both("defect(" + k + ", " + spare + ")", () -> disc.defect(k, spare), () -> model.defect(k, spare));
                break;
            case 13:
                both("whyNotWrite(" + file + ", " + length + ")", () -> disc.whyNotWrite(file, length),
                    () -> model.whyNotWrite(file, length));
                break;
            case 14:
                int why = what % 4;
                both("whyNot(" + why + ")", () -> disc.whyNot(why), () -> model.whyNot(why));
                break;
            case 15:
                both("risk(" + block + ")", () -> disc.risk(block), () -> model.risk(block));
                break;
            case 16:
                if (oneIn(4)) {
                    both("weakest()", disc::weakest, model::weakest);
                }
                break;
            case 17:
                both("filesBefore(" + session + ")", () -> disc.filesBefore(session), () -> model.filesBefore(session));
                break;
            case 18:
                int use = what % 6;
                both("space(" + use + ")", () -> disc.space(use), () -> model.space(use));
                break;
            case 19:
                int of = what % 6;
                both("spaceOf(" + session + ", " + of + ")", () -> disc.spaceOf(session, of),
                    () -> model.spaceOf(session, of));
                break;
            default:
                both("share()", () -> Double.doubleToLongBits(disc.share()),
                    () -> Double.doubleToLongBits(model.share()));
                both("errorPosition()", disc::errorPosition, model::errorPosition);
                break;
        }
    }

    private void appendBoth(String text) {
        for (int from = 0; from < text.length(); from += 20) {
            int[] w = new int[5];
            for (int i = 0; i < 20; i++) {
                int value = from + i < text.length() ? text.charAt(from + i) : ' ';
                w[i / 4] = w[i / 4] << 8 | value;
            }
            both("append(" + Arrays.toString(w) + ")", () -> disc.append(w[0], w[1], w[2], w[3], w[4]),
                () -> model.append(w));
        }
    }

    private void findName() {
        String name = NAMES[upTo(NAMES.length)];
        appendBoth(oneIn(6) ? mutated(name) : name);
        both("find()", disc::find, model::find);
    }

    private void parseText() {
        String text = text();
        appendBoth(text);
        int length = oneIn(12) ? upTo(640) - 20 : text.length();
        both("parse(" + length + ") of " + text, () -> disc.parse(length), () -> model.parse(length));
        both("errorPosition()", disc::errorPosition, model::errorPosition);
        if (oneIn(3)) {
            both("parse(20)", () -> disc.parse(20), () -> model.parse(20));
        }
    }

    private String mutated(String text) {
        String signs = " \n;az09A`{/:\u0000\u00ff";
        int at = upTo(text.length() + 1);
        String sign = oneIn(3) ? "" : String.valueOf(signs.charAt(upTo(signs.length())));
        int dropped = Math.min(text.length(), at + upTo(2));
        return text.substring(0, at) + sign + text.substring(dropped);
    }

    private String text() {
        int blocks = leaning == 0 ? 8 + upTo(10) : leaning == 4 ? 90 + upTo(7) : 8 + upTo(89);
        int spare = upTo(Math.min(16, blocks / 2) + 1);
        int files = leaning == 2 ? 8 + upTo(3) : 1 + upTo(4);
        if (oneIn(40)) {
            blocks = upTo(120);
            spare = upTo(20);
        }
        StringBuilder text = new StringBuilder("disc " + blocks + " " + spare + ";");
        int declared = 0;
        int statements = upTo(40);
        for (int n = 0; n < statements; n++) {
            int kind = upTo(12);
            if (declared < files && (declared == 0 || kind < 4)) {
                text.append("file ").append(NAMES[declared++]).append(';');
            } else {
                text.append(statement(kind, blocks, declared));
            }
        }
        while (declared < files && text.length() < 560) {
            text.append("file ").append(NAMES[declared++]).append(';');
        }
        String made = text.length() > 600 ? text.substring(0, 600) : text.toString();
        return oneIn(5) ? mutated(made) : made;
    }

    private String statement(int kind, int blocks, int declared) {
        String name = oneIn(60) ? NAMES[upTo(NAMES.length)] : NAMES[upTo(declared)];
        int length = oneIn(80) ? upTo(12) : 1 + upTo(3);
        int block = oneIn(80) ? upTo(120) : upTo(Math.max(1, blocks));
        switch (kind) {
            case 0, 1: return "close;";
            case 2: return oneIn(3) ? "erase " + name + ";" : "";
            case 3, 4, 5, 6: return "write " + name + " " + length + " " + upTo(1000) + ";";
            case 7: return "file " + NAMES[upTo(NAMES.length)] + ";";
            default: return "bad " + block + ";";
        }
    }
}
