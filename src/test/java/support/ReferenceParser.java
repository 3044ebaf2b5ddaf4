import java.math.BigInteger;
import java.util.ArrayList;
import java.util.List;
import java.util.TreeSet;
import java.util.regex.Matcher;
import java.util.regex.Pattern;

/** Section 1 once more: statements as patterns, and for each token all the errors that it has. */
final class ReferenceParser {
    private static final Pattern TOKEN = Pattern.compile("[a-z]+|[0-9]+|[^ \n]", Pattern.DOTALL);

    private final List<String> tokens = new ArrayList<>();
    private final List<Integer> starts = new ArrayList<>();
    private final Reference.State state = new Reference.State();
    private int at = 0;
    int code = 0;
    int position = -1;

    ReferenceParser(String text) {
        Matcher matcher = TOKEN.matcher(text);
        while (matcher.find()) {
            tokens.add(matcher.group());
            starts.add(matcher.start());
        }
        tokens.add("");
        starts.add(text.length());
    }

    Reference.State parse() {
        String[] pattern = {"capacity", "999", "limit", "12", ";"};
        boolean first = true;
        do {
            if (!first) {
                pattern = patternOf(tokens.get(at));
            }
            if (pattern == null || !statement(pattern)) {
                if (code == 0) {
                    code = 1;
                }
                position = starts.get(at);
                return null;
            }
            first = false;
        } while (!tokens.get(at).isEmpty());
        return state;
    }

    private static String[] patternOf(String word) {
        switch (word) {
            case "item": return new String[] {"item", "weight", "99", "gain", "99", "joy", "99", ";"};
            case "bar": return new String[] {"bar", "ITEM", "ITEM", ";"};
            case "need": return new String[] {"need", "ITEM", "ITEM", ";"};
            case "must": return new String[] {"must", "ITEM", ";"};
            case "never": return new String[] {"never", "ITEM", ";"};
            default: return null;
        }
    }

    private boolean statement(String[] pattern) {
        List<Integer> numbers = new ArrayList<>();
        for (String part : pattern) {
            TreeSet<Integer> errors = errorsOf(tokens.get(at), part, pattern[0], numbers);
            if (!errors.isEmpty()) {
                code = errors.first();
                return false;
            }
            at++;
        }
        tell(pattern[0], numbers);
        return true;
    }

    private TreeSet<Integer> errorsOf(String token, String part, String word, List<Integer> numbers) {
        TreeSet<Integer> errors = new TreeSet<>();
        boolean wantsNumber = part.equals("ITEM") || Character.isDigit(part.charAt(0));
        if (!wantsNumber) {
            if (!token.equals(part)) {
                errors.add(1);
            } else if (part.equals("item") && state.items.size() == 12) {
                errors.add(4);
            }
            return errors;
        }
        if (token.isEmpty() || !Character.isDigit(token.charAt(0))) {
            errors.add(1);
            return errors;
        }
        int most = part.equals("ITEM") ? state.items.size() - 1 : Integer.parseInt(part);
        BigInteger number = new BigInteger(token);
        if (number.compareTo(BigInteger.valueOf(most)) > 0) {
            errors.add(2);
            return errors;
        }
        numbers.add(number.intValue());
        if (toldAlready(word, numbers)) {
            errors.add(3);
        }
        return errors;
    }

    private boolean toldAlready(String word, List<Integer> numbers) {
        int last = numbers.get(numbers.size() - 1);
        if (word.equals("must") || word.equals("never")) {
            return (word.equals("must") ? state.must : state.never).contains(last);
        }
        if (!word.equals("bar") && !word.equals("need") || numbers.size() < 2) {
            return false;
        }
        int item = numbers.get(0);
        if (item == last) {
            return true;
        }
        return word.equals("need") ? state.needs.contains(new Reference.Rule(item, last))
            : state.bars.contains(new Reference.Rule(Math.min(item, last), Math.max(item, last)));
    }

    private void tell(String word, List<Integer> n) {
        switch (word) {
            case "capacity": state.capacity = n.get(0); state.limit = n.get(1); break;
            case "item": state.items.add(new Reference.Item(n.get(0), n.get(1), n.get(2))); break;
            case "bar": state.bars.add(new Reference.Rule(Math.min(n.get(0), n.get(1)), Math.max(n.get(0), n.get(1)))); break;
            case "need": state.needs.add(new Reference.Rule(n.get(0), n.get(1))); break;
            case "must": state.must.add(n.get(0)); break;
            default: state.never.add(n.get(0)); break;
        }
    }
}
