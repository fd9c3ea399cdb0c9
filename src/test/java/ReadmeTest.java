import java.lang.reflect.Method;
import java.lang.reflect.Modifier;
import java.nio.file.Files;
import java.nio.file.Path;
import java.util.List;
import java.util.Map;
import java.util.TreeMap;
import java.util.regex.Matcher;
import java.util.regex.Pattern;

/** README.md: each call on it answers what stands there, and each call of the class has its row of refusals. */
public final class ReadmeTest {
    private static final String CALL = "(\\w+)\\(([-\\d, ]*)\\)";
    private static final Pattern IN_CODE = Pattern.compile("x\\." + CALL + "; +// (-?\\d+)(:.*)?");
    private static final Pattern IN_ROW = Pattern.compile("`" + CALL + "` (-?\\d+)");
    private static final Pattern ROW = Pattern.compile("\\| `(\\w+)\\(([\\w, ]*)\\)` \\| (.*) \\| (.*) \\|");

    public static void main(String[] args) throws Exception {
        List<String> lines = Files.readAllLines(Path.of("README.md"));
        examples(lines);
        rows(lines);
        Check.sentence("README: for how many calls it may be used");
        Check.due("lines that tell of 512 calls", lines.stream().anyMatch(l -> l.contains("at most 512 calls")) ? 1 : 0, 1);
        Check.sentence("README: how its tests are run");
        Check.due("lines that run them", lines.stream().anyMatch(l -> l.trim().equals("bash .ci/run")) ? 1 : 0, 1);
        Check.end();
    }

    private static void examples(List<String> lines) {
        int played = 0;
        for (int i = 0; i < lines.size(); i++) {
            if (!lines.get(i).equals("OneReader x = new OneReader();")) {
                continue;
            }
            played++;
            Check.sentence("README: example " + played);
            OneReader x = new OneReader();
            for (i++; !lines.get(i).equals("```"); i++) {
                Matcher m = IN_CODE.matcher(lines.get(i));
                boolean reads = m.matches();
                Check.due("to be read as a call with its answer: " + lines.get(i), reads ? 1 : 0, 1);
                if (reads) {
                    play(x, m);
                }
            }
        }
        Check.sentence("README: how an object is made and called");
        Check.due("examples", played, 2);
    }

    private static void rows(List<String> lines) {
        Map<String, Integer> rows = new TreeMap<>();
        for (String line : lines) {
            Matcher row = ROW.matcher(line);
            if (row.matches()) {
                String parameters = row.group(2);
                rows.put(row.group(1), parameters.isEmpty() ? 0 : parameters.split(", ").length);
                Check.sentence("README: the row of " + row.group(1));
                Check.due("calls in it", playAll(row.group(4)) > 0 ? 1 : 0, 1);
            }
        }
        Check.sentence("README: the refusals that the calls answer by");
        for (Method m : OneReader.class.getDeclaredMethods()) {
            if (Modifier.isPublic(m.getModifiers())) {
                Check.due("parameters in the row of " + m.getName() + " (-1: no row)",
                    rows.getOrDefault(m.getName(), -1), m.getParameterCount());
            }
        }
        Check.due("rows", rows.size(), 38);
    }

    private static int playAll(String cell) {
        OneReader x = new OneReader();
        Matcher m = IN_ROW.matcher(cell);
        int calls = 0;
        while (m.find()) {
            play(x, m);
            calls++;
        }
        Check.due("calls that can't be read in " + cell, cell.split("`").length / 2 - calls, 0);
        return calls;
    }

    private static void play(OneReader x, Matcher call) {
        String told = call.group(2).trim();
        String[] numbers = told.isEmpty() ? new String[0] : told.split(", *");
        int[] args = new int[numbers.length];
        for (int i = 0; i < args.length; i++) {
            args[i] = Integer.parseInt(numbers[i]);
        }
        Check.due(Call.told(call.group(1), args), Call.on(x, call.group(1), args), Long.parseLong(call.group(3)));
    }
}
