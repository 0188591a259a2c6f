import java.lang.reflect.InvocationTargetException;
import java.lang.reflect.Method;
import java.util.ArrayList;
import java.util.List;

/**
 * A run of calls on one new disc, each written as a text:
 *
 * <pre>
 *   write(0, 2, 5) = 0             the answer that is due
 *   session(1, *) = 1 3 2          several answers, for 0, 1 and 2 in the place of *
 *   size({-1 13 max}) throws IllegalArgument      the call with each of these
 *   close()                        no exception is due
 *   11 times: write(0, 1, 1); close()
 *   parse "disc 8 9;" = 3 7        the code and the position
 *   find "ab" = 0
 * </pre>
 *
 * Behind each call that throws, everything that can be seen of the disc is compared with what it was ahead of it.
 */
final class Script {
    private record Call(Method method, Object[] arguments) {
        String on(OnceDisc disc) {
            try {
                return String.valueOf(method.invoke(disc, arguments));
            } catch (InvocationTargetException e) {
                return "throws " + e.getCause().getClass().getSimpleName();
            } catch (IllegalAccessException e) {
                throw new AssertionError(e);
            }
        }
    }

    // An object is promised for so many calls; what is seen of it is asked of twins that are made for it.
    private static final int CALLS = 512;

    private final OnceDisc disc = new OnceDisc();
    private final List<Call> calls = new ArrayList<>();
    private String step = "";

    private Script() {
    }

    /** Makes a disc from a text (a new one, if it is empty) and does the steps on it. */
    static void run(String text, String... steps) {
        Script script = new Script();
        if (!text.isEmpty()) {
            script.take("parse \"" + text + "\" = 0");
        }
        for (String step : steps) {
            script.take(step);
        }
        Check.isTrue("the script has at most " + CALLS + " calls", script.calls.size() <= CALLS);
    }

    private void take(String next) {
        step = next;
        int times = step.indexOf(" times: ");
        if (times >= 0) {
            for (int n = Integer.parseInt(step.substring(0, times)); n > 0; n--) {
                for (String call : step.substring(times + 8).split("; ")) {
                    call(call, "", false);
                }
            }
        } else if (step.contains("\"")) {
            text(step);
        } else if (step.contains(" throws ")) {
            String[] sides = step.split(" throws ");
            call(sides[0], "throws " + sides[1] + "Exception", true);
        } else {
            String[] sides = step.split(" = ");
            call(sides[0], sides.length > 1 ? sides[1] : "", false);
        }
    }

    private void text(String whole) {
        String text = whole.substring(whole.indexOf('"') + 1, whole.lastIndexOf('"'));
        String[] due = whole.substring(whole.lastIndexOf('"') + 1).replace("=", "").trim().split(" ");
        for (int from = 0; from < text.length(); from += 20) {
            StringBuilder call = new StringBuilder("append(");
            for (int word = from; word < from + 20; word += 4) {
                int value = 0;
                for (int i = word; i < word + 4; i++) {
                    value = value << 8 | (i < text.length() ? text.charAt(i) & 255 : ' ');
                }
                call.append(word == from ? "" : ", ").append(value);
            }
            call(call.append(")").toString(), "", false);
        }
        if (whole.startsWith("find")) {
            call("find()", due[0], false);
        } else if (whole.startsWith("parse")) {
            call("parse(" + text.length() + ")", due[0], false);
            call("errorPosition()", due.length > 1 ? due[1] : "-1", false);
        }
    }

    /** A call, or several ones if a set of arguments stands in it. */
    private void call(String written, String due, boolean throwing) {
        String[] dues = throwing ? new String[] {due} : due.split(" ");
        String call = written;
        if (call.contains("*")) {
            StringBuilder numbers = new StringBuilder("{");
            for (int i = 0; i < dues.length; i++) {
                numbers.append(i == 0 ? "" : " ").append(i);
            }
            call = call.replace("*", numbers.append("}").toString());
        }
        int brace = call.indexOf('{');
        String[] set = brace < 0 ? new String[] {""} : call.substring(brace + 1, call.indexOf('}')).split(" ");
        for (int i = 0; i < set.length; i++) {
            String one = brace < 0 ? call : call.substring(0, brace) + set[i] + call.substring(call.indexOf('}') + 1);
            single(one, dues[Math.min(i, dues.length - 1)], throwing);
        }
        Check.isTrue(step + " has a due answer for each call", dues.length == 1 || dues.length == set.length);
    }

    private void single(String written, String due, boolean throwing) {
        Call call = parsed(written);
        String before = throwing ? state() : "";
        calls.add(call);
        String got = call.on(disc);
        boolean good = due.isEmpty() ? !got.startsWith("throws") : got.equals(value(due));
        Check.isTrue(step + ": " + written + " answered " + got + ", due is " + due + ", and this", good);
        if (throwing) {
            Check.equal("what is seen after " + written, state(), before);
        }
    }

    private static String value(String due) {
        if (due.contains("/")) {
            String[] parts = due.split("/");
            return String.valueOf(Double.parseDouble(parts[0]) / Double.parseDouble(parts[1]));
        }
        return due;
    }

    private static Call parsed(String written) {
        int open = written.indexOf('(');
        String inside = written.substring(open + 1, written.lastIndexOf(')')).trim();
        String[] texts = inside.isEmpty() ? new String[0] : inside.split(", *");
        for (Method method : OnceDisc.class.getDeclaredMethods()) {
            if (method.getName().equals(written.substring(0, open).trim()) && method.getParameterCount() == texts.length) {
                Object[] arguments = new Object[texts.length];
                for (int i = 0; i < texts.length; i++) {
                    arguments[i] = method.getParameterTypes()[i] == boolean.class ? (Object) texts[i].equals("true")
                        : (Object) number(texts[i]);
                }
                return new Call(method, arguments);
            }
        }
        throw new AssertionError("no such call: " + written);
    }

    private static int number(String text) {
        return switch (text) {
            case "max" -> Integer.MAX_VALUE;
            case "min" -> Integer.MIN_VALUE;
            default -> (int) (long) Long.decode(text);
        };
    }

    private OnceDisc twin() {
        OnceDisc twin = new OnceDisc();
        for (Call call : calls) {
            call.on(twin);
        }
        return twin;
    }

    /** Everything that can be seen of the disc now. */
    private String state() {
        StringBuilder seen = new StringBuilder();
        OnceDisc first = twin();
        for (int what = 0; what <= 12; what++) {
            seen.append(first.size(what)).append(' ');
        }
        seen.append(first.errorPosition()).append('\n');
        int blocks = first.size(0);
        for (int from = 0; from < blocks; from += 30) {
            OnceDisc twin = twin();
            for (int block = from; block < Math.min(blocks, from + 30); block++) {
                for (int what = 0; what <= 6; what++) {
                    seen.append(twin.block(block, what)).append(' ');
                }
            }
        }
        for (int session = 0; session < first.size(3); session++) {
            OnceDisc twin = twin();
            for (int what = 0; what <= 8; what++) {
                seen.append(twin.session(session, what)).append(' ');
            }
            for (int k = 0; k < 10; k++) {
                seen.append(twin.entry(session, k, 0)).append(' ').append(twin.entry(session, k, 1)).append(' ');
            }
        }
        for (int slot = 0; slot < 2; slot++) {
            seen.append(parsed("restoreSnapshot(" + slot + ")").on(twin())).append(' ');
        }
        seen.append(parsed("undo()").on(twin())).append(' ');
        OnceDisc last = twin();
        // The buffer is longer than 580 bytes if this is NONE.
        seen.append(last.append(0, 0, 0, 0, 0));
        return seen.toString();
    }
}
