import java.util.Random;

/** Random texts, right ones and spoilt ones, read by the class and by the model. */
public final class TextModelTest {
    private static final int RUNS = 60000;
    private static final String SIGNS = "tvubc0123456789,;  x-T";

    public static void main(String[] args) {
        Check check = new Check();
        Random random = new Random(7);
        for (int run = 0; run < RUNS; run++) {
            String text = randomText(random);
            SoftCosts real = new SoftCosts();
            Model model = new Model();
            for (int k = 0; k < text.length(); k++) {
                real.write(text.charAt(k));
                model.write(text.charAt(k));
            }
            check.due("fault() of " + text, real.fault(), model.fault());
            check.due("lay() of " + text, real.lay(), model.lay());
            for (int what = 0; what < 7; what++) {
                check.due("count(" + what + ") of " + text, real.count(what), model.count(what));
            }
            check.due("total() of " + text, real.total(), model.total());
        }
        check.end();
    }

    private static String randomText(Random random) {
        StringBuilder text = new StringBuilder();
        int items = random.nextInt(20);
        for (int k = 0; k < items; k++) {
            text.append(randomItem(random, k));
        }
        int spoilt = Math.max(0, random.nextInt(4) - 1);
        for (int k = 0; k < spoilt && text.length() > 0; k++) {
            int place = random.nextInt(text.length());
            char sign = SIGNS.charAt(random.nextInt(SIGNS.length()));
            switch (random.nextInt(3)) {
                case 0: text.setCharAt(place, sign); break;
                case 1: text.deleteCharAt(place); break;
                default: text.insert(place, sign); break;
            }
        }
        return text.toString();
    }

    private static String randomItem(Random random, int k) {
        String cost = random.nextInt(8) == 0 ? "0" + random.nextInt(10) : "" + random.nextInt(100);
        if (k < 3 || random.nextInt(5) == 0) {
            return "v" + (random.nextInt(30) == 0 ? random.nextInt(7) : 2 + random.nextInt(3)) + ";";
        }
        int i = random.nextInt(random.nextInt(10) == 0 ? 6 : 3);
        int j = i + (random.nextInt(10) == 0 ? random.nextInt(4) - 1 : 1 + random.nextInt(2));
        switch (random.nextInt(4)) {
            case 0: return "t" + cost + ";";
            case 1: return "u" + i + "," + random.nextInt(random.nextInt(10) == 0 ? 5 : 2) + "," + cost + ";";
            case 2: return "b" + i + "," + Math.max(0, j) + "," + cost + ";";
            default:
                return "c" + random.nextInt(random.nextInt(10) == 0 ? 4 : 1) + "," + random.nextInt(3) + ","
                    + random.nextInt(random.nextInt(10) == 0 ? 5 : 2) + "," + cost + ";";
        }
    }
}
