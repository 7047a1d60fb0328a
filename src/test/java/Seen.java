import java.util.ArrayList;
import java.util.List;

/**
 * All that a caller can see of a volume without changing it, as one text, to compare volumes by. As no
 * object need stand more than 512 calls, new volumes are led to the same place and asked a part each.
 */
final class Seen {
    private static final int MOST_CALLS = 512;

    private Seen() {
    }

    static String after(List<Call> calls) {
        AppendedVolume first = led(calls);
        // A class that takes too large a volume must be found wrong, and not keep the test for hours.
        List<Call> questions = questions(Math.min(first.count(0), 11), Math.min(first.count(1), 16));
        int part = calls.size() < MOST_CALLS ? MOST_CALLS - calls.size() : questions.size();
        StringBuilder text = new StringBuilder();
        for (int from = 0; from < questions.size(); from += part) {
            AppendedVolume volume = led(calls);
            for (Call question : questions.subList(from, Math.min(from + part, questions.size()))) {
                text.append(question.on(volume)).append(' ');
            }
        }
        return text.toString();
    }

    private static AppendedVolume led(List<Call> calls) {
        AppendedVolume volume = new AppendedVolume();
        calls.forEach(call -> call.on(volume));
        return volume;
    }

    private static List<Call> questions(int segments, int blocks) {
        List<Call> all = new ArrayList<>();
        add(all, "count", 10);
        add(all, "segment", segments, 6);
        for (int s = 0; s < segments; s++) {
            for (int address = 16 * s; address < 16 * s + blocks; address++) {
                for (int what = 0; what < 5; what++) {
                    all.add(new Call("block", address, what));
                }
                all.add(new Call("neededBy", address));
            }
        }
        add(all, "reader", 6, 5);
        add(all, "addressOf", 24);
        add(all, "getFrom", 4, 24);
        return all;
    }

    private static void add(List<Call> all, String name, int end) {
        for (int arg = 0; arg < end; arg++) {
            all.add(new Call(name, arg));
        }
    }

    private static void add(List<Call> all, String name, int end, int otherEnd) {
        for (int arg = 0; arg < end; arg++) {
            for (int other = 0; other < otherEnd; other++) {
                all.add(new Call(name, arg, other));
            }
        }
    }
}
