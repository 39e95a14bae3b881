import java.nio.charset.StandardCharsets;
import java.util.HashSet;
import java.util.Set;

/** Counts answers that are not due, and tells of each; every test program ends with finish. */
final class Check {
    interface Call {
        long answer();
    }

    private static final Set<String> SENTENCES = new HashSet<>();
    private static int asked = 0;
    private static int wrong = 0;
    private static String held = "";

    private Check() {
    }

    /** Names the sentence of the document that the answers after this are due by, until the next one is named. */
    static void sentence(String heading, String words) {
        held = "\n    by \"" + words + "\", " + heading;
        if (SENTENCES.add(held)) {
            due("whether the document says so", true, Document.says(heading, words));
        }
    }

    /** The answers after this are due by no sentence of the document. */
    static void noSentence() {
        held = "";
    }

    static void due(String call, String want, String got) {
        asked++;
        if (!want.equals(got)) {
            wrong++;
            System.out.println(call + " answered " + got + ", due is " + want + held);
        }
    }

    static void due(String call, long want, long got) {
        due(call, Long.toString(want), Long.toString(got));
    }

    static void due(String call, boolean want, boolean got) {
        due(call, Boolean.toString(want), Boolean.toString(got));
    }

    /** An exception of the machine would be one of a class below, so the class itself is compared. */
    static void dueThrows(String call, Class<? extends RuntimeException> want, Call made) {
        due(call, "throws." + want.getSimpleName(), outcome(made));
    }

    static String outcome(Call made) {
        try {
            return Long.toString(made.answer());
        } catch (RuntimeException e) {
            return "throws." + e.getClass().getSimpleName();
        }
    }

    static int answerOf(boolean b) {
        return b ? 1 : 0;
    }

    /** Puts a text into the input buffer, padded to whole words with bytes that load must not read. */
    static void put(TaylorModels models, String text) {
        byte[] bytes = text.getBytes(StandardCharsets.ISO_8859_1);
        for (int at = 0; at < bytes.length; at += 20) {
            int[] w = new int[5];
            for (int k = 0; k < 20; k++) {
                int b = at + k < bytes.length ? bytes[at + k] & 255 : '$';
                w[k / 4] = w[k / 4] << 8 | b;
            }
            models.append(w[0], w[1], w[2], w[3], w[4]);
        }
    }

    static int load(TaylorModels models, String text) {
        put(models, text);
        return models.load(text.length());
    }

    static TaylorModels loaded(String text) {
        TaylorModels models = new TaylorModels();
        if (load(models, text) < 0) {
            due("load of " + text, "no error", "an error at " + models.errorOffset());
        }
        return models;
    }

    /** All of a defined model: its coefficients in the order of the checksum, then its remainder. */
    static String shown(TaylorModels models, int model) {
        StringBuilder text = new StringBuilder();
        for (int i = 0; i <= 3; i++) {
            for (int j = 0; i + j <= 3; j++) {
                int c = models.coefficient(model, i, j);
                if (c != 0) {
                    text.append(c).append(" x").append(i).append("y").append(j).append(", ");
                }
            }
        }
        return text.append(models.remainder(model, 0)).append(" to ").append(models.remainder(model, 1)).toString();
    }

    /** An object with these models from 0 on, told as shown tells them; null stands for one that is not defined. */
    static TaylorModels holding(String... models) {
        StringBuilder text = new StringBuilder("models;");
        for (int k = 0; k < models.length; k++) {
            text.append(models[k] == null ? "" : (char) ('a' + k) + "=0;");
        }
        TaylorModels object = loaded(text.toString());
        for (int k = 0; k < models.length; k++) {
            if (models[k] != null) {
                fill(object, k, models[k]);
            }
        }
        return object;
    }

    private static void fill(TaylorModels object, int model, String told) {
        String[] parts = told.split(", ");
        for (int p = 0; p < parts.length - 1; p++) {
            String[] term = parts[p].split("[ xy]+");
            int value = Integer.parseInt(term[0]);
            object.setCoefficient(model, Integer.parseInt(term[1]), Integer.parseInt(term[2]), value);
        }
        String[] ends = parts[parts.length - 1].split(" to ");
        object.setRemainder(model, Integer.parseInt(ends[0]), Integer.parseInt(ends[1]));
    }

    /** What a model is after a call; or the exception that the call threw, which must have changed nothing. */
    static String becomes(TaylorModels models, int model, Call made) {
        long before = models.checksum();
        String outcome = outcome(made);
        if (!outcome.startsWith("throws.")) {
            return shown(models, model);
        }
        due("whether all is as before a call that threw", true, before == models.checksum());
        return outcome;
    }

    static void finish(String program) {
        System.out.println(program + ": " + (asked - wrong) + " answers as due, " + wrong + " not");
        System.exit(wrong == 0 && asked > 0 ? 0 : 1);
    }
}
