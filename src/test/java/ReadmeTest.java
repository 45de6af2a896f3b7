import java.io.IOException;
import java.io.InputStream;
import java.lang.reflect.Method;
import java.lang.reflect.Modifier;
import java.nio.charset.StandardCharsets;
import java.nio.file.Files;
import java.nio.file.Path;
import java.util.ArrayList;
import java.util.Collections;
import java.util.List;
import java.util.Set;
import java.util.TreeSet;
import java.util.regex.Matcher;
import java.util.regex.Pattern;
import java.util.stream.Collectors;
import java.util.stream.Stream;

/** What README.md says works as written: its example, its commands on a fresh copy of the sources, its tables. */
public final class ReadmeTest {
    private static final Path SOURCES = Path.of("src");
    private static final Path TESTS = SOURCES.resolve("test/java");
    private static final String ALL_TESTS = ".ci/run";

    public static void main(String[] args) throws IOException, InterruptedException {
        String page = Files.readString(Path.of("README.md"));
        example(page);
        commands(page);
        calls(page);
        constants(page);
        tests(page);
        Due.end();
    }

    private static void yes(String what, boolean is) {
        Due.is(what, is ? 1 : 0, 1);
    }

    private static List<String> blocks(String page, String kind) {
        List<String> found = new ArrayList<>();
        Matcher block = Pattern.compile("(?s)```" + kind + "\n(.*?)```").matcher(page);
        while (block.find()) {
            found.add(block.group(1));
        }
        return found;
    }

    private static void example(String page) throws IOException {
        String file = Files.readString(SOURCES.resolve("example/java/Example.java"));
        yes("the example is shown as it is", blocks(page, "java").equals(List.of(file)));
    }

    /** The script that runs all tests is not run: it is what runs this one. */
    private static void commands(String page) throws IOException, InterruptedException {
        List<String> shown = blocks(page, "sh");
        yes("the page tells how to run all tests", shown.contains(ALL_TESTS + "\n"));
        yes("the script is there", Files.isExecutable(Path.of(ALL_TESTS)));
        Path fresh = Files.createTempDirectory("readme");
        copySources(fresh);
        StringBuilder printed = new StringBuilder();
        for (String commands : shown) {
            if (!commands.equals(ALL_TESTS + "\n")) {
                printed.append(run(commands, fresh));
            }
        }
        remove(fresh);
        yes("what the commands print is shown:\n" + printed, blocks(page, "text").equals(List.of(printed.toString())));
    }

    private static void copySources(Path to) throws IOException {
        try (Stream<Path> all = Files.walk(SOURCES)) {
            for (Path one : all.collect(Collectors.toList())) {
                if (Files.isDirectory(one)) {
                    Files.createDirectories(to.resolve(one));
                } else {
                    Files.copy(one, to.resolve(one));
                }
            }
        }
    }

    private static void remove(Path directory) throws IOException {
        try (Stream<Path> all = Files.walk(directory)) {
            List<Path> inner = all.collect(Collectors.toList());
            Collections.reverse(inner);
            for (Path one : inner) {
                Files.delete(one);
            }
        }
    }

    private static String run(String commands, Path in) throws IOException, InterruptedException {
        Process shell = new ProcessBuilder("sh", "-ec", commands).directory(in.toFile()).redirectErrorStream(true).start();
        String printed;
        try (InputStream from = shell.getInputStream()) {
            printed = new String(from.readAllBytes(), StandardCharsets.UTF_8);
        }
        Due.is("the exit code of\n" + commands, shell.waitFor(), 0);
        return printed;
    }

    private static void calls(String page) {
        Set<String> told = new TreeSet<>();
        Matcher call = Pattern.compile("`(\\w+)\\(([^)`]*)\\)`(?=[^\n]*\\|\n)").matcher(page);
        while (call.find()) {
            told.add(call.group(1) + " " + (call.group(2).isEmpty() ? 0 : call.group(2).split(",").length));
        }
        Set<String> there = new TreeSet<>();
        for (Method one : UmbrellaStreet.class.getDeclaredMethods()) {
            if (Modifier.isPublic(one.getModifiers())) {
                there.add(one.getName() + " " + one.getParameterCount());
            }
        }
        yes("the calls " + there + " are told: " + told, told.equals(there));
    }

    private static void constants(String page) {
        String[] names = {"NONE", "UNKNOWN", "OUTSIDE", "NOT", "FULL"};
        int[] values = {UmbrellaStreet.NONE, UmbrellaStreet.UNKNOWN, UmbrellaStreet.OUTSIDE, UmbrellaStreet.NOT,
            UmbrellaStreet.FULL};
        for (int i = 0; i < names.length; i++) {
            yes(names[i] + " is told", page.contains("| `" + names[i] + "` | " + values[i] + " |"));
        }
    }

    private static void tests(String page) throws IOException {
        Set<String> told = new TreeSet<>();
        Matcher row = Pattern.compile("\n\\| `(\\w+Test)` \\|").matcher(page);
        while (row.find()) {
            told.add(row.group(1) + ".java");
        }
        try (Stream<Path> files = Files.list(TESTS)) {
            Set<String> there = files.map(one -> one.getFileName().toString()).filter(name -> name.endsWith("Test.java"))
                    .collect(Collectors.toCollection(TreeSet::new));
            yes("the tests " + there + " are told: " + told, told.equals(there));
        }
    }
}
