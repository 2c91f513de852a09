import java.lang.reflect.Constructor;
import java.lang.reflect.Field;
import java.lang.reflect.Method;
import java.lang.reflect.Modifier;
import java.util.Arrays;
import java.util.List;
import java.util.TreeSet;

/** The public face is the one that the document writes down, and nothing else is to be seen. */
public final class FaceTest {
  private static final List<String> FACE = List.of(
      "public static final int NONE",
      "public SharedChoices()",
      "public int number(long)",
      "public int choice(int,int) throws IllegalArgumentException",
      "public int fail()",
      "public int pair(int,int) throws IllegalArgumentException",
      "public int part(int,boolean) throws IllegalArgumentException",
      "public int op(int,int,int) throws IllegalArgumentException",
      "public int when(int,int,int) throws IllegalArgumentException",
      "public int set(int,int) throws IllegalArgumentException",
      "public int fold(int,int) throws IllegalArgumentException",
      "public int clear()",
      "public int node(int,int) throws NoSuchElementException",
      "public void ask(int,int,int) throws IllegalArgumentException",
      "public int next() throws IllegalStateException",
      "public int decision(int)",
      "public long token(int,int) throws NoSuchElementException",
      "public int count(int)");

  private static String plain(String text) {
    return text.replace("java.lang.", "").replace("java.util.", "").replace("SharedChoices.", "");
  }

  public static void main(String[] args) {
    Class<SharedChoices> face = SharedChoices.class;
    TreeSet<String> seen = new TreeSet<>();
    for (Field one : face.getDeclaredFields()) if (!Modifier.isPrivate(one.getModifiers())) seen.add(plain(one.toGenericString()));
    for (Constructor<?> one : face.getDeclaredConstructors()) if (!Modifier.isPrivate(one.getModifiers())) seen.add(plain(one.toGenericString()));
    for (Method one : face.getDeclaredMethods()) if (!Modifier.isPrivate(one.getModifiers())) seen.add(plain(one.toGenericString()));
    TreeSet<String> due = new TreeSet<>(FACE);
    boolean right = seen.equals(due) && Modifier.toString(face.getModifiers()).equals("public final")
        && face.getSuperclass() == Object.class && face.getInterfaces().length == 0;
    for (Class<?> inside : face.getDeclaredClasses()) {
      if (!Modifier.isStatic(inside.getModifiers()) || Modifier.isPublic(inside.getModifiers())) right = false;
    }
    if (!right) {
      System.out.println("the face is " + Modifier.toString(face.getModifiers()) + " " + seen + ", due is " + due);
      System.out.println("classes inside: " + Arrays.toString(face.getDeclaredClasses()));
      System.exit(1);
    }
    System.out.println("the face is as due");
  }
}
