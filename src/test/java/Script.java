import java.util.ArrayList;
import java.util.Arrays;
import java.util.List;
import java.util.regex.Matcher;
import java.util.regex.Pattern;

/**
 * A run of calls on a new volume, told as a text: calls with ';' between them, each with the answer that
 * is due behind '=', or with the exception behind '!'; one with neither must not throw.
 *
 * <p>{a b c} stands for several arguments or answers and a..b for all numbers from a to b, so that
 * "get {0..2} = {5 6 7}" is three calls, "undo = {1 0}" two, and "get {-1 24} ! Index" two that must
 * throw. "3 x advance" is the call three times; min and max are the ends of int. A call that throws must
 * leave the volume as it was.
 */
final class Script {
    private static final Pattern WORD = Pattern.compile("\\{[^}]*\\}|\\S+");

    private final AppendedVolume volume = new AppendedVolume();
    private final List<Call> done = new ArrayList<>();
    private final Check check;
    private final StringBuilder told = new StringBuilder();

    Script(Check check) {
        this.check = check;
    }

    static Script run(Check check, String text) {
        return new Script(check).go(text);
    }

    Script go(String text) {
        for (String step : text.split(";")) {
            step(step.trim());
        }
        return this;
    }

    String seen() {
        return Seen.after(done);
    }

    /** Makes a call and answers what it answers, or the name of what it throws. */
    String answer(Call call) {
        String got = call.on(volume);
        done.add(call);
        told.append(' ').append(call).append(" = ").append(got).append(';');
        return got;
    }

    private void step(String step) {
        List<String> words = words(step);
        int times = 1;
        if (words.size() > 2 && words.get(1).equals("x")) {
            times = Integer.parseInt(words.get(0));
            words = words.subList(2, words.size());
        }
        int end = Math.max(words.indexOf("="), words.indexOf("!"));
        List<String> due = end < 0 ? List.of() : words.subList(end, words.size());
        List<Call> calls = calls(words.get(0), words.subList(1, end < 0 ? words.size() : end));
        for (int i = 0; i < times; i++) {
            step(calls, due);
        }
    }

    private void step(List<Call> calls, List<String> due) {
        if (due.isEmpty()) {
            calls.forEach(this::succeed);
        } else if (due.size() != 2) {
            throw new IllegalStateException("the test itself is wrong: " + calls + " " + due);
        } else if (due.get(0).equals("!")) {
            calls.forEach(call -> refuse(call, exception(due.get(1))));
        } else {
            expect(calls, numbers(due.get(1)));
        }
    }

    private void expect(List<Call> calls, List<Integer> due) {
        if (calls.size() != 1 && due.size() != 1 && calls.size() != due.size()) {
            throw new IllegalStateException("the test itself is wrong: " + calls + " " + due);
        }
        for (int i = 0; i < Math.max(calls.size(), due.size()); i++) {
            expect(calls.get(calls.size() == 1 ? 0 : i), due.get(due.size() == 1 ? 0 : i).toString());
        }
    }

    private void expect(Call call, String due) {
        String got = answer(call);
        check.holds(got.equals(due), "due is " + due + " at the end of" + told);
    }

    private void refuse(Call call, String due) {
        String before = seen();
        expect(call, due);
        check.holds(before.equals(seen()), "something has changed at the end of" + told);
    }

    private void succeed(Call call) {
        if (answer(call).endsWith("Exception")) {
            check.holds(false, "an answer is due at the end of" + told);
        }
    }

    // ---- reading

    private static String exception(String word) {
        switch (word) {
            case "Index":
                return "IndexOutOfBoundsException";
            case "State":
                return "IllegalStateException";
            case "Argument":
                return "IllegalArgumentException";
            case "Element":
                return "NoSuchElementException";
            default:
                throw new IllegalStateException("the test itself is wrong: " + word);
        }
    }

    private static List<String> words(String text) {
        List<String> words = new ArrayList<>();
        Matcher matcher = WORD.matcher(text);
        while (matcher.find()) {
            words.add(matcher.group());
        }
        return words;
    }

    /** All calls that the words stand for, the last argument changing first. */
    private static List<Call> calls(String name, List<String> words) {
        List<Call> calls = new ArrayList<>();
        calls.add(new Call(name));
        for (String word : words) {
            List<Call> longer = new ArrayList<>();
            for (Call call : calls) {
                for (int number : numbers(word)) {
                    int[] args = Arrays.copyOf(call.args(), call.args().length + 1);
                    args[args.length - 1] = number;
                    longer.add(new Call(name, args));
                }
            }
            calls = longer;
        }
        return calls;
    }

    private static List<Integer> numbers(String word) {
        List<Integer> numbers = new ArrayList<>();
        for (String part : word.replaceAll("[{}]", " ").trim().split("\\s+")) {
            int range = part.indexOf("..");
            int first = number(range < 0 ? part : part.substring(0, range));
            int last = range < 0 ? first : number(part.substring(range + 2));
            numbers.add(first);
            for (int next = first; next != last;) {
                next += first < last ? 1 : -1;
                numbers.add(next);
            }
        }
        return numbers;
    }

    private static int number(String word) {
        return switch (word) {
            case "min" -> Integer.MIN_VALUE;
            case "max" -> Integer.MAX_VALUE;
            default -> Integer.decode(word);
        };
    }
}
