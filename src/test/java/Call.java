import java.util.ArrayList;
import java.util.Collections;
import java.util.List;
import java.util.Map;

/** One call with its numbers and, where it is told, the answer that is due. */
final class Call {
    private static final Map<String, Object> WORDS = Map.of(
        "NONE", Check.NONE, "UNKNOWN", Check.UNKNOWN, "OUTSIDE", Check.OUTSIDE, "NOT", Check.NOT, "FULL", Check.FULL,
        "MIN", Integer.MIN_VALUE, "MAX", Integer.MAX_VALUE, "true", true, "false", false);

    final String name;
    final Object[] numbers;
    /** Null: any answer that is no refusal, no fault. */
    final Integer due;

    private Call(String name, Object[] numbers, Integer due) {
        this.name = name;
        this.numbers = numbers;
        this.due = due;
    }

    /** Lines of calls with commas between them: "doIt 0, carry 0 1 = 12"; "3 x home" is three calls; "tell &lt;text&gt;". */
    static List<Call> read(String... lines) {
        List<Call> calls = new ArrayList<>();
        for (String line : lines) {
            // A comma within a text parts no calls.
            for (String part : line.split(",(?![^<]*>)")) {
                if (!part.isBlank()) {
                    calls.addAll(readOne(part.strip()));
                }
            }
        }
        return calls;
    }

    /** All letters of a text, then school() and the answer that is due. */
    static List<Call> telling(String text, Integer due) {
        List<Call> calls = new ArrayList<>();
        for (int i = 0; i < text.length(); i++) {
            calls.add(new Call("feed", new Object[] {(int) text.charAt(i)}, null));
        }
        calls.add(new Call("school", new Object[0], due));
        return calls;
    }

    private static List<Call> readOne(String part) {
        int equals = part.lastIndexOf(" = ");
        Integer due = equals < 0 ? null : (Integer) number(part.substring(equals + 3).strip());
        String call = equals < 0 ? part : part.substring(0, equals).strip();
        if (call.startsWith("tell <")) {
            return telling(call.substring(6, call.lastIndexOf('>')), due);
        }
        String[] words = call.split(" +");
        boolean isRepeated = words.length > 2 && words[1].equals("x");
        int from = isRepeated ? 2 : 0;
        Object[] numbers = new Object[words.length - from - 1];
        for (int i = 0; i < numbers.length; i++) {
            numbers[i] = number(words[from + 1 + i]);
        }
        return Collections.nCopies(isRepeated ? Integer.parseInt(words[0]) : 1, new Call(words[from], numbers, due));
    }

    private static Object number(String word) {
        Object known = WORDS.get(word);
        return known != null ? known : (Object) Integer.valueOf(word);
    }

    static boolean isRefusal(int answer) {
        return answer <= Check.UNKNOWN && answer >= Check.FULL;
    }

    boolean isRefused() {
        return due != null && isRefusal(due);
    }

    boolean isFaultySchool() {
        return name.equals("school") && due != null && due < 0;
    }

    @Override
    public String toString() {
        StringBuilder text = new StringBuilder(name).append("(");
        for (int i = 0; i < numbers.length; i++) {
            text.append(i == 0 ? "" : ", ").append(numbers[i]);
        }
        return text.append(")").toString();
    }
}
