import java.nio.file.Files;
import java.nio.file.Path;
import java.util.ArrayList;
import java.util.List;
import java.util.regex.Matcher;
import java.util.regex.Pattern;

/** The run of calls in README.md, whose lines are read there, answers what README.md says. */
public final class ReadmeTest {
    private static final Pattern LINE =
        Pattern.compile("heap\\.(\\w+)\\(([^)]*)\\); *(?://(?: answers (-?\\d+):?)?.*)?");

    private final Check check = new Check();
    private final LineCollector heap = new LineCollector();

    public static void main(String[] args) throws Exception {
        new ReadmeTest().play(linesOfTheRun(Files.readAllLines(Path.of("README.md"))));
    }

    private static List<String> linesOfTheRun(List<String> readme) {
        int begin = readme.indexOf("```java") + 1;
        List<String> run = new ArrayList<>();
        for (int k = begin; k < readme.size() && !readme.get(k).equals("```"); k++) {
            run.add(readme.get(k));
        }
        return run;
    }

    private void play(List<String> run) throws Exception {
        check.due("a new object first", run.get(0), "LineCollector heap = new LineCollector();");
        int asked = 0;
        for (String line : run.subList(1, run.size())) {
            Matcher told = LINE.matcher(line);
            check.due("a call: " + line, told.matches(), true);
            Object answer = call(told.group(1), told.group(2).split(", "));
            if (told.group(3) != null) {
                asked++;
                check.due(line, String.valueOf(answer), told.group(3));
            }
        }
        check.due("answers told", asked >= 10, true);
        check.end();
    }

    private Object call(String name, String[] told) throws Exception {
        for (var method : LineCollector.class.getMethods()) {
            if (method.getName().equals(name)) {
                Object[] arguments = new Object[told.length];
                for (int k = 0; k < told.length; k++) {
                    boolean isNumber = method.getParameterTypes()[k] == int.class;
                    arguments[k] = isNumber ? (Object) Integer.valueOf(told[k]) : Boolean.valueOf(told[k]);
                }
                return method.invoke(heap, arguments);
            }
        }
        return "no such call";
    }
}
