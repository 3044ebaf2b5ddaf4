import java.util.Random;

/** Random texts: mostly right ones, and some with a token or a byte changed. */
final class TextMaker {
    private static final String[] TOKENS = {"capacity", "limit", "item", "weight", "gain", "joy", "bar", "need", "must",
        "never", ";", ";;", ",", "0", "1", "12", "13", "99", "100", "0000000000000000000005", "99999999999999999999",
        "items", "ite", "Item", "-1", "", "x", "\t", "\u00ff", "\u0000", "4294967296", "2147483648"};

    private final Random random;
    private final int most;
    private final int greatest;

    TextMaker(Random random, int most, int greatest) {
        this.random = random;
        this.most = most;
        this.greatest = greatest;
    }

    String make() {
        StringBuilder text = new StringBuilder();
        add(text, "capacity", number(greatest * most / 2 + 1), "limit", 3 + random.nextInt(10), ";");
        int items = random.nextInt(most + 1);
        int wrong = random.nextInt(4) == 0 ? random.nextInt(items + 6) : -1;
        for (int i = 0; i < items + 6; i++) {
            if (i == wrong) {
                add(text, TOKENS[random.nextInt(TOKENS.length)]);
            }
            if (i < items) {
                add(text, "item", "weight", number(greatest + 1), "gain", number(greatest + 1), "joy",
                    number(greatest + 1), ";");
            } else if (items > 1) {
                addRule(text, items);
            }
        }
        if (random.nextInt(5) == 0) {
            spoil(text);
        }
        return text.length() > 600 ? text.substring(0, 600) : text.toString();
    }

    private void addRule(StringBuilder text, int items) {
        int item = random.nextInt(items);
        int other = random.nextInt(6) == 0 ? random.nextInt(items + 1) : (item + 1) % items;
        switch (random.nextInt(8)) {
            case 0: add(text, "bar", item, other, ";"); break;
            case 1: add(text, "need", item, other, ";"); break;
            case 2: add(text, "must", item, ";"); break;
            case 3: add(text, "never", item, ";"); break;
            default: break;
        }
    }

    private Object number(int bound) {
        int number = random.nextInt(bound);
        return random.nextInt(30) == 0 ? "00" + number : number;
    }

    private void spoil(StringBuilder text) {
        int at = random.nextInt(text.length());
        switch (random.nextInt(4)) {
            case 0: text.deleteCharAt(at); break;
            case 1: text.setCharAt(at, (char) random.nextInt(256)); break;
            case 2: text.setLength(at); break;
            default: text.insert(at, TOKENS[random.nextInt(TOKENS.length)]); break;
        }
    }

    private void add(StringBuilder text, Object... tokens) {
        for (Object token : tokens) {
            String told = token.toString();
            boolean apart = text.length() > 0 && !told.isEmpty() && (isPlain(told.charAt(0)) || random.nextInt(4) == 0);
            if (apart) {
                text.append(random.nextInt(10) == 0 ? "\n" : " ");
            }
            text.append(told);
        }
    }

    private static boolean isPlain(char sign) {
        return sign >= 'a' && sign <= 'z' || sign >= '0' && sign <= '9';
    }
}
